-- ===== say =====
theorem strIs_evo {M M' : ZI} {R R' : ZF} {L L' : ZY} {a v : Nat} {xs : List Int32} (h : strIs M R L a v xs) (he : evo M R L M' R' L') : strIs M' R' L' a v xs := by
  obtain ⟨h1, h2, h3⟩ := he
  have h8 := h.2.2.2.2.2.2.2.2.2.1
  have h5 := h.2.2.2.2.1
  have hc : hFr (fun c => c < 148) M R L M' R' L' := ⟨h1, fun c hc ho => ⟨h2 c (Nat.le_of_not_lt ho) hc, h3 c hc⟩⟩
  exact strIs_fr h hc (fun q1 q2 => by have := h8 q1; have q2 : a < 148 := q2; omega) (fun q1 q2 => by have := h5 q1; have q2 : v < 148 := q2; omega)
/-- the TAPE, and nothing else -/
def tpB (B B' : ZI) : Prop := (∀ o, o ≠ 148 → o ≠ 158 → B' o = B o) ∧ ∀ j, j ≠ 19 → B' 148 j = B 148 j
theorem tpB_refl (B : ZI) : tpB B B := ⟨fun _ _ _ => rfl, fun _ _ => rfl⟩
theorem tpB_trans {A B C : ZI} (h1 : tpB A B) (h2 : tpB B C) : tpB A C := ⟨fun o a b => (h2.1 o a b).trans (h1.1 o a b), fun j a => (h2.2 j a).trans (h1.2 j a)⟩
def sayR (M : ZI) (R : ZF) (L : ZY) (B : ZI) (xs : List Int32) (q : Nat) (o : Option ZH) : Prop := ∃ M' R' L' B' T, o = some (M', R', L') ∧ evo M R L M' R' L' ∧ (∃ X, L' = L ++ X ∧ X.length + q ≤ 20 ∧ (X.map Prod.snd).sum = 5 * X.length) ∧ Inv2 M' B' ∧ tpB B B' ∧ T ≤ 400 ∧ xs.length ≤ T ∧ B' 148 19 = znn T ∧ ∀ i, i < xs.length → B' 158 i = znn (bt xs i)
theorem say_loop {a av : Nat} {xs : List Int32} (hlen : xs.length ≤ 400) : ∀ (fuel q : Nat) (M : ZI) (R : ZF) (L : ZY) (B : ZI), 400 - 20 * q < fuel → 20 * q ≤ 400 → strIs M R L a av xs → zgood R L = true → L.length + 20 ≤ 800000 + q → 148 ≤ L.length → Inv2 M B → B 148 19 = znn (20 * q) → (∀ i, i < 20 * q → B 158 i = znn (bt xs i)) → sayR M R L B xs q (g145_l2 a fuel (znn (20 * q)) M R L) := by
  intro fuel
  induction fuel with
  | zero => intro q M R L B h; omega
  | succ f ih =>
    intro q M R L B hf hq hs hz hL hL148 hI h19 hb
    have hasc := hs.2.2.2.2.2.2.2.1
    simp only [g145_l2]
    rw [if_pos hs.1, str_length hs]
    simp only [Option.bind_some]
    by_cases hlt : 20 * q < xs.length
    · have hq20 : 20 * q + 20 ≤ 400 := by omega
      have g5 : gnn 5 = true := by decide
      have gf : gfr L = true := gfr_of (by omega)
      have z5 : zi (5 : Int32) = 5 := rfl
      have hnew : (L ++ [(0, 5)])[L.length]? = some (0, 5) := lay_new
      have hL2 : (L ++ [(0, 5)]).length ≤ 900000 := by simp; omega
      have ev1 : evo M R L (zw M L.length fun _ => 0) (zw R L.length fun _ => none) (L ++ [(0, 5)]) := ⟨⟨_, rfl⟩, fun c _ q2 => zw_ne _ _ (by omega), fun c q2 => zw_ne _ _ (by omega)⟩
      have hs1 := strIs_evo hs ev1
      have hz1 := zgood_evo ev1 hz
      obtain ⟨M2, w1, w2, w3⟩ := say_word (at0 := 20 * q) hs1 hnew hL2 (fun j hj => by rw [zw_self]) (by omega)
      have hI2 : Inv2 M2 B := Inv2_of hI (fun o ho => by rw [w3 o (by omega), zw_ne _ _ (by omega)]) (fun _ _ => rfl)
      obtain ⟨v, M3, B3, f1, f2, f3, f4, f5⟩ := sync_feed (znn (part4 (fun i => bt xs (20 * q + i)) 0 4)) (znn (part4 (fun i => bt xs (20 * q + i)) 1 4)) (znn (part4 (fun i => bt xs (20 * q + i)) 2 4)) (znn (part4 (fun i => bt xs (20 * q + i)) 3 4)) (znn (part4 (fun i => bt xs (20 * q + i)) 4 4)) M2 B hI2
      obtain ⟨B4, r1, r2, r3, r4, r5, r6⟩ := feed_r (t := 20 * q) (c := fun i => bt xs (20 * q + i)) (fun i => bt_lt hasc _) hq20 h19
      rw [f2] at r1
      cases r1
      have ga : ∀ j, j < 5 → gar (L ++ [(0, 5)]) L.length 0 (znn j) = true := fun j hj => gar_of hnew (lay_lt hnew hL2) hj (by decide)
      have g0 : gar (L ++ [(0, 5)]) L.length 0 0 = true := ga 0 (by decide)
      have g1 : gar (L ++ [(0, 5)]) L.length 0 1 = true := ga 1 (by decide)
      have g2 : gar (L ++ [(0, 5)]) L.length 0 2 = true := ga 2 (by decide)
      have g3 : gar (L ++ [(0, 5)]) L.length 0 3 = true := ga 3 (by decide)
      have g4 : gar (L ++ [(0, 5)]) L.length 0 4 = true := ga 4 (by decide)
      have ev2 : evo M R L M3 (zw R L.length fun _ => none) (L ++ [(0, 5)]) := ⟨⟨_, rfl⟩, fun c q1 q2 => by rw [f4 c q1, w3 c (by omega), zw_ne _ _ (by omega)], fun c q2 => zw_ne _ _ (by omega)⟩
      have hw : ∀ j, j < 5 → M2 L.length j = znn (part4 (fun i => bt xs (20 * q + i)) j 4) := w2
      have zz0 : zi (0 : Int32) = 0 := rfl
      have zz1 : zi (1 : Int32) = 1 := rfl
      have zz2 : zi (2 : Int32) = 2 := rfl
      have zz3 : zi (3 : Int32) = 3 := rfl
      have zz4 : zi (4 : Int32) = 4 := rfl
      rw [if_pos ((zn_lt (by omega) (by omega)).mpr hlt), if_pos g5, if_pos gf]
      simp only [gnew, z5]
      rw [w1]
      simp only [Option.bind_some]
      rw [if_pos g0, if_pos g1, if_pos g2, if_pos g3, if_pos g4, if_pos hz1, zz0, zz1, zz2, zz3, zz4, hw 0 (by decide), hw 1 (by decide), hw 2 (by decide), hw 3 (by decide), hw 4 (by decide), f1]
      simp only [Option.bind_some]
      rw [show znn (20 * q) + 20 = znn (20 * (q + 1)) from zn_add (20 * q) 20]
      obtain ⟨M', R', L', B', T, e1, e2, ⟨X, e3, e4, e5⟩, e6, e7, e8, e9, e10, e11⟩ := ih (q + 1) M3 (zw R L.length fun _ => none) (L ++ [(0, 5)]) B3 (by omega) (by omega) (strIs_evo hs ev2) (zgood_evo ev2 hz) (by simp; omega) (by simp; omega) f3 r2 (fun i hi => by
        by_cases hi2 : i < 20 * q
        · rw [r4 i hi2]
          exact hb i hi2
        · have := r3 (i - 20 * q) (by omega)
          rw [show 20 * q + (i - 20 * q) = i by omega] at this
          exact this)
      exact ⟨M', R', L', B', T, e1, evo_trans ev2 e2, ⟨[(0, 5)] ++ X, by rw [e3, List.append_assoc], by simp; omega, by simp; omega⟩, e6, tpB_trans ⟨r5, r6⟩ e7, e8, e9, e10, e11⟩
    · rw [if_neg (by rw [zn_lt (by omega) (by omega)]; exact hlt)]
      exact ⟨M, R, L, B, 20 * q, rfl, evo_refl, ⟨[], by simp, by simp; omega, by simp⟩, hI, tpB_refl B, by omega, by omega, h19, fun i hi => hb i (by omega)⟩
theorem say_stop {a av f : Nat} {M : ZI} {R : ZF} {L : ZY} {xs : List Int32} (hs : strIs M R L a av xs) (hn : xs.length = 0) : g145_l2 a (f + 1) 0 M R L = some (M, R, L) := by
  simp only [g145_l2]
  rw [if_pos hs.1, str_length hs, hn]
  simp only [Option.bind_some]
  rw [if_neg (by decide)]
theorem say_ok {M : ZI} {R : ZF} {L : ZY} {B : ZI} {a av : Nat} {xs : List Int32} (hlen : xs.length ≤ 400) (hs : strIs M R L a av xs) (hz : zgood R L = true) (hL : L.length ≤ 700000) (hL148 : 148 ≤ L.length) (hI : Inv2 M B) (h19 : B 148 19 = 0) :
    ∃ M' R' L' B', g145_say a M R L = some (M', R', L') ∧ evo M R L M' R' L' ∧ (∃ X, L' = L ++ X ∧ X.length ≤ 20 ∧ (X.map Prod.snd).sum ≤ 100) ∧ Inv2 M' B' ∧ tpB B B' ∧ B' 148 19 = znn xs.length ∧ ∀ i, i < xs.length → B' 158 i = xs.getD i 0 := by
  have hasc := hs.2.2.2.2.2.2.2.1
  by_cases h0 : ¬ 0 < xs.length
  · have hn : xs.length = 0 := by omega
    have e : g145_l2 a zfu 0 M R L = some (M, R, L) := by rw [zfu_succ]; exact say_stop hs hn
    unfold g145_say
    rw [e]
    simp only [Option.bind_some]
    rw [if_pos hs.1, str_length hs, hn]
    simp only [Option.bind_some]
    rw [if_neg (by decide)]
    exact ⟨M, R, L, B, rfl, evo_refl, ⟨[], by simp, by simp, by simp⟩, hI, tpB_refl B, h19, fun i hi => absurd hi (by omega)⟩
  have h0 : 0 < xs.length := by omega
  obtain ⟨M1, R1, L1, B1, T, e1, e2, ⟨X, e3, e4, e5⟩, e6, e7, e8, e9, e10, e11⟩ := say_loop hlen zfu 0 M R L B (by rw [zfu_eq]; omega) (by omega) hs hz (by omega) hL148 hI h19 (fun i hi => absurd hi (by omega))
  have hs1 := strIs_evo hs e2
  have hz1 := zgood_evo e2 hz
  have e1 : g145_l2 a zfu 0 M R L = some (M1, R1, L1) := e1
  unfold g145_say
  rw [e1]
  simp only [Option.bind_some]
  rw [if_pos hs1.1, str_length hs1]
  simp only [Option.bind_some]
  obtain ⟨v, M3, B3, f1, f2, f3, f4, f5⟩ := sync_end (znn xs.length) M1 B1 e6
  rw [end_r e8 e9 e10] at f2
  cases f2
  rw [if_pos (show (0 : Int32) < znn xs.length by rw [zl0, zn_lt (by omega) (by omega)]; exact h0), if_pos hz1, f1]
  simp only [Option.bind_some]
  refine ⟨M3, R1, L1, _, rfl, evo_trans e2 ⟨⟨[], by simp⟩, fun c q1 _ => f4 c q1, fun _ _ => rfl⟩, ⟨X, e3, by omega, by omega⟩, f3, tpB_trans e7 ⟨fun o q1 _ => zs_df q1, fun j hj => by rw [zs_sm, if_neg hj]⟩, by rw [zs_sm, if_pos rfl], fun i hi => ?_⟩
  rw [zs_df (by decide), e11 i hi, bt_eq hasc hi]
