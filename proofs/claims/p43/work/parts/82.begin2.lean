theorem begin_cls {b : Nat → Nat} {t : Nat} {A : ZI} (hb : tapB b t) (hA : onA A b t) (v : Int32) :
    ∃ A1 N, f53_begin 119 v A = some A1 ∧ (N ≤ 400 ∧ tkS b t N = t ∧ ∀ q, q < N → tkS b t q < t) ∧ ((∀ q, q ≤ N → laid b t A1 q) ∧ A1 119 5 = znn (N + 1) ∧ A1 119 9 = v) ∧ (A1 119 6 = znn 0 ∧ A1 119 7 = tkK b t 0 ∧ (tkK b t 0 = -2 → A1 119 8 = znn (tkV b t 0)) ∧ A1 119 10 = 0 ∧ A1 119 11 = -1) ∧ A1 119 1 = 0 ∧ ∀ o, o ≠ 119 → o ≠ 121 → o ≠ 122 → o ≠ 123 → A1 o = A o := by
  have ht := hb.1
  have k1 : ∀ M : ZI, M = zs (zs (zs (zs A 119 9 v) 119 10 0) 119 11 (-1)) 119 5 0 → ∃ A1 N, ((f54_l7 119 zfu (0 : Int32) M).bind fun M23 => (f64_addToken 119 (-1 : Int32) (0 : Int32) (M23 119 1) M23).bind fun M27 => some M27) = some A1 ∧ (N ≤ 400 ∧ tkS b t N = t ∧ ∀ q, q < N → tkS b t q < t) ∧ (∀ q, q ≤ N → laid b t A1 q) ∧ A1 119 5 = znn (N + 1) ∧ (∀ o, o ≠ 119 → o ≠ 121 → o ≠ 122 → o ≠ 123 → A1 o = M o) ∧ ∀ j, j ≠ 5 → A1 119 j = M 119 j := by
    intro M hM
    have m5 : M 119 5 = znn 0 := by rw [hM, zs_sm, if_pos rfl]; rfl
    have mA : onA M b t := ⟨by rw [hM, zs_sm, if_neg (by decide), zs_sm, if_neg (by decide), zs_sm, if_neg (by decide), zs_sm, if_neg (by decide)]; exact hA.1, fun j hj => by rw [hM, zs_df (by decide), zs_df (by decide), zs_df (by decide), zs_df (by decide)]; exact hA.2 j hj⟩
    obtain ⟨M23, N, g1, g2, g3, g4, g5, g6, g7⟩ := toks_cls hb zfu 0 0 M (Nat.zero_le _) (by rw [zfu_eq]; omega) mA m5 (Nat.le_refl _) rfl (fun q hq => by omega)
    have g1 : f54_l7 119 zfu (0 : Int32) M = some M23 := g1
    obtain ⟨A1, e1, e2, e3, e4, e5⟩ := lay_tok (b := b) (t := t) (a := -1) (v := 0) (s := M23 119 1) g5 (by omega) (by
      unfold tkK
      rw [g3]
      unfold lexKind
      rw [if_neg (Nat.lt_irrefl t)]) (by
      unfold tkK
      rw [g3]
      unfold lexKind
      rw [if_neg (Nat.lt_irrefl t)]
      intro hc
      exact absurd hc (by decide)) (by rw [g3, g7 1 (by decide)]; exact mA.1) (fun q hq => (g4 q hq).1)
    refine ⟨A1, N, ?_, ⟨by omega, g3, fun q hq => (g4 q hq).2⟩, fun q hq => e3 q (by omega), e2, fun o o1 o2 o3 o4 => (e4 o o1 o2 o3 o4).trans (g6 o o1 o2 o3 o4), fun j hj => (e5 j hj).trans (g7 j hj)⟩
    rw [g1, Option.bind_some, e1, Option.bind_some]
  obtain ⟨M4, N, e1, e2, e3, e4, e5, e6⟩ := k1 _ rfl
  have q9 : M4 119 9 = v := by rw [e6 9 (by decide), zs_sm, if_neg (by decide), zs_sm, if_neg (by decide), zs_sm, if_neg (by decide), zs_sm, if_pos rfl]
  have q10 : M4 119 10 = 0 := by rw [e6 10 (by decide), zs_sm, if_neg (by decide), zs_sm, if_neg (by decide), zs_sm, if_pos rfl]
  have q11 : M4 119 11 = -1 := by rw [e6 11 (by decide), zs_sm, if_neg (by decide), zs_sm, if_pos rfl]
  have e7 : f54_findTokens 119 (zs (zs (zs A 119 9 v) 119 10 0) 119 11 (-1)) = some M4 := by
    unfold f54_findTokens
    rw [zlet_e]
    exact e1
  have hf := fwd_cls (A := zs (zs M4 119 1 0) 119 6 (-1)) (m := 0) (N := N) (by rw [zs_sm, if_pos rfl]; rfl) (by rw [zs_sm, if_neg (by decide), zs_sm, if_neg (by decide)]; exact e4) (by omega) e2.1
  have l0 := e3 0 (by omega)
  have hbe : f53_begin 119 v A = some (zs (zs (zs (zs (zs M4 119 1 0) 119 6 (-1)) 119 6 (znn 0)) 119 7 ((zs (zs M4 119 1 0) 119 6 (-1)) 121 0)) 119 8 ((zs (zs M4 119 1 0) 119 6 (-1)) 122 0)) := by
    unfold f53_begin
    rw [zlet_e, zlet_e, zlet_e, e7, Option.bind_some, zlet_e, zlet_e, hf, Option.bind_some]
  refine ⟨_, N, hbe, e2, ⟨fun q hq => laid_of (e3 q hq) ⟨?_, ?_, ?_⟩, ?_, ?_⟩, ⟨?_, ?_, ?_, ?_, ?_⟩, ?_, fun o o1 o2 o3 o4 => ?_⟩
  rotate_left 11
  · rw [zs_df o1, zs_df o1, zs_df o1, zs_df o1, zs_df o1, e5 o o1 o2 o3 o4, zs_df o1, zs_df o1, zs_df o1, zs_df o1]
  · rw [zs_df (by decide), zs_df (by decide), zs_df (by decide), zs_df (by decide), zs_df (by decide)]
  · rw [zs_df (by decide), zs_df (by decide), zs_df (by decide), zs_df (by decide), zs_df (by decide)]
  · rw [zs_df (by decide), zs_df (by decide), zs_df (by decide), zs_df (by decide), zs_df (by decide)]
  · rw [zs_sm, if_neg (by decide), zs_sm, if_neg (by decide), zs_sm, if_neg (by decide), zs_sm, if_neg (by decide), zs_sm, if_neg (by decide)]; exact e4
  · rw [zs_sm, if_neg (by decide), zs_sm, if_neg (by decide), zs_sm, if_neg (by decide), zs_sm, if_neg (by decide), zs_sm, if_neg (by decide)]; exact q9
  · rw [zs_sm, if_neg (by decide), zs_sm, if_neg (by decide), zs_sm, if_pos rfl]
  · rw [zs_sm, if_neg (by decide), zs_sm, if_pos rfl, zs_df (by decide), zs_df (by decide)]; exact l0.1
  · rw [zs_sm, if_pos rfl, zs_df (by decide), zs_df (by decide)]; exact l0.2.1
  · rw [zs_sm, if_neg (by decide), zs_sm, if_neg (by decide), zs_sm, if_neg (by decide), zs_sm, if_neg (by decide), zs_sm, if_neg (by decide)]; exact q10
  · rw [zs_sm, if_neg (by decide), zs_sm, if_neg (by decide), zs_sm, if_neg (by decide), zs_sm, if_neg (by decide), zs_sm, if_neg (by decide)]; exact q11
  · rw [zs_sm, if_neg (by decide), zs_sm, if_neg (by decide), zs_sm, if_neg (by decide), zs_sm, if_neg (by decide), zs_sm, if_pos rfl]
-- the class's kind against the reference's token
def wordOf (a q : Nat) : Int32 := wordTok a (fun k => k == sk q)
def pairs (a : Nat) : List (Int32 × Int32) := [(-1, 0), (-2, 2), (-3, 1)] ++ ([40, 41, 42, 43, 45, 47, 59, 60, 61, 62].map fun c => (znn c, 100 + znn c)) ++ (List.range 24).map fun q => (znn (256 + q), wordOf a q)
theorem wordTok_congr {a : Nat} {w w' : Nat → Bool} (h : ∀ k, 0 < k → k ≤ 24 → w k = w' k) : wordTok a w = wordTok a w' := by
  simp only [wordTok, lawTok, askTok, workTok, councilTok, h 1 (by decide) (by decide), h 2 (by decide) (by decide), h 3 (by decide) (by decide), h 4 (by decide) (by decide), h 5 (by decide) (by decide), h 6 (by decide) (by decide), h 7 (by decide) (by decide), h 8 (by decide) (by decide), h 9 (by decide) (by decide), h 10 (by decide) (by decide), h 11 (by decide) (by decide), h 12 (by decide) (by decide), h 13 (by decide) (by decide), h 14 (by decide) (by decide), h 15 (by decide) (by decide), h 16 (by decide) (by decide), h 17 (by decide) (by decide), h 18 (by decide) (by decide), h 19 (by decide) (by decide), h 20 (by decide) (by decide), h 21 (by decide) (by decide), h 22 (by decide) (by decide), h 23 (by decide) (by decide), h 24 (by decide) (by decide)]
theorem sk_all : ∀ k : Fin 25, 0 < k.val → (List.range 24).any (fun q => sk q == k.val) = true := by decide +kernel
theorem word_pair {a : Nat} {b : Nat → Nat} {s e : Nat} : (kindOf b s e 24 0, wordTok a (fun k => wMatch b s e k)) ∈ pairs a := by
  unfold pairs
  by_cases hc : ∃ q, q < 24 ∧ wMatch b s e (sk q) = true
  · obtain ⟨q, hq, hm⟩ := hc
    obtain ⟨o1, o2, -⟩ := off_fact ⟨q, hq⟩
    rw [kind_at 24 0 rfl q (Nat.zero_le _) hq hm, wordTok_congr (w' := fun k => k == sk q) (fun k k1 k2 => by
      show wMatch b s e k = (k == sk q)
      by_cases hkq : k = sk q
      · rw [hkq, hm]
        exact (beq_self_eq_true _).symm
      · rw [Bool.eq_iff_iff]
        constructor
        · intro h
          exact absurd (one_word k1 k2 o1 o2 h hm) hkq
        · intro h
          exact absurd (eq_of_beq h) hkq)]
    exact List.mem_append_right _ (List.mem_map.mpr ⟨q, List.mem_range.mpr hq, rfl⟩)
  · have hn : ∀ q, q < 24 → wMatch b s e (sk q) = false := fun q hq => by
      cases hw : wMatch b s e (sk q) with
      | false => rfl
      | true => exact absurd ⟨q, hq, hw⟩ hc
    rw [kind_none 24 0 rfl (fun q _ hq => hn q hq), wordTok_congr (w' := fun _ => false) (fun k k1 k2 => by
      show wMatch b s e k = false
      obtain ⟨q, hq, e⟩ := List.any_eq_true.mp (sk_all ⟨k, by omega⟩ k1)
      have := hn q (List.mem_range.mp hq)
      rw [eq_of_beq e] at this
      exact this)]
    refine List.mem_append_left _ (List.mem_append_left _ ?_)
    have : wordTok a (fun _ => false) = 1 := by
      have h4 : a = 0 ∨ a = 1 ∨ a = 2 ∨ (a ≠ 0 ∧ a ≠ 1 ∧ a ≠ 2) := by omega
      rcases h4 with rfl | rfl | rfl | ⟨h1, h2, h3⟩
      · rfl
      · rfl
      · rfl
      · unfold wordTok
        rw [if_neg h1, if_neg h2, if_neg h3]
        rfl
    rw [this]
    exact List.mem_cons_of_mem _ (List.mem_cons_of_mem _ (List.mem_cons_self ..))
theorem sign_pair {x : Nat} (h : signB x = true) : x ∈ [40, 41, 42, 43, 45, 47, 59, 60, 61, 62] := by
  unfold signB at h
  simp only [Bool.or_eq_true, decide_eq_true_eq] at h
  rcases h with ((((((((h | h) | h) | h) | h) | h) | h) | h) | h) | h <;> rw [h] <;> decide
theorem tk_pair {a : Nat} {b : Nat → Nat} {t : Nat} (m : Nat) : (tkK b t m, tkT a b t m) ∈ pairs a := by
  unfold tkK tkT
  generalize tkS b t m = s
  have three : ∀ {x : Int32 × Int32}, x ∈ [((-1 : Int32), (0 : Int32)), (-2, 2), (-3, 1)] → x ∈ pairs a := fun h => by
    unfold pairs
    exact List.mem_append_left _ (List.mem_append_left _ h)
  by_cases hs : s < t
  · by_cases hl : isLet (b s) = true
    · rw [show lexKind b t s = kindOf b s (runEnd isLet b t (t - s) s) 24 0 by unfold lexKind; rw [if_pos hs, if_pos hl], show lexTok a b t s = wordTok a (fun k => wMatch b s (runEnd isLet b t (t - s) s) k) by unfold lexTok; rw [if_pos hs, if_pos hl]]
      exact word_pair
    · by_cases hd : isDig (b s) = true
      · rw [show lexKind b t s = (if 4 < runEnd isDig b t (t - s) s - s then -3 else -2) by unfold lexKind; rw [if_pos hs, if_neg hl, if_pos hd], show lexTok a b t s = (if runEnd isDig b t (t - s) s - s < 5 then 2 else 1) by unfold lexTok; rw [if_pos hs, if_neg hl, if_pos hd]]
        by_cases h4 : 4 < runEnd isDig b t (t - s) s - s
        · rw [if_pos h4, if_neg (by omega)]
          exact three (by decide)
        · rw [if_neg h4, if_pos (by omega)]
          exact three (by decide)
      · rw [show lexKind b t s = (if signB (b s) = true then znn (b s) else -3) by unfold lexKind; rw [if_pos hs, if_neg hl, if_neg hd], show lexTok a b t s = (if signB (b s) = true then 100 + znn (b s) else 1) by unfold lexTok; rw [if_pos hs, if_neg hl, if_neg hd]]
        by_cases hg : signB (b s) = true
        · rw [if_pos hg, if_pos hg]
          unfold pairs
          exact List.mem_append_left _ (List.mem_append_right _ (List.mem_map.mpr ⟨b s, sign_pair hg, rfl⟩))
        · rw [if_neg hg, if_neg hg]
          exact three (by decide)
  · rw [show lexKind b t s = -1 by unfold lexKind; rw [if_neg hs], show lexTok a b t s = 0 by unfold lexTok; rw [if_neg hs]]
    exact three (by decide)
/-- what holds of every pair holds of the token -/
theorem tk_on {a : Nat} {p : Int32 × Int32 → Bool} (hp : (pairs a).all p = true) (b : Nat → Nat) (t m : Nat) : p (tkK b t m, tkT a b t m) = true := List.all_eq_true.mp hp _ (tk_pair m)
theorem tk_end {a : Nat} {b : Nat → Nat} {t n N m : Nat} {A0 B0 A B : ZI} (hC : CX a b t n N A0 B0) (h : PS a b t N A0 B0 A B m) : (m = N → tkK b t m = -1) ∧ (tkK b t m ≠ -1 → m < N) := by
  have e : m = N → tkK b t m = -1 := by
    rintro rfl
    unfold tkK
    rw [hC.2.1.2.1]
    unfold lexKind
    rw [if_neg (Nat.lt_irrefl t)]
  refine ⟨e, fun h1 => ?_⟩
  have := h.1.2.2
  by_cases hm : m = N
  · exact absurd (e hm) h1
  · omega
