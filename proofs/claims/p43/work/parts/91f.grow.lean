-- ===== the works noted, and the YEAR's end, in a LAND and in the reference =====
def sWk (w : Nat → Int32) (s : Nat) : Nat → Nat → Int32
  | 0 => w
  | i + 1 => if s.testBit i = true then sNote (sWk w s i) 3 (znn i) (w (91 + 6 * i)) else sWk w s i
theorem sWk_5 {w : Nat → Int32} {s l : Nat} (hl : l ≤ 150) (h5 : w 5 = znn l) : ∀ i, ∃ l', l' ≤ 150 ∧ l ≤ l' ∧ sWk w s i 5 = znn l'
  | 0 => ⟨l, hl, Nat.le_refl _, h5⟩
  | i + 1 => by
    obtain ⟨l1, h1, h2, h3⟩ := sWk_5 (s := s) hl h5 i
    unfold sWk
    split
    · obtain ⟨l2, g1, g2, g3⟩ := sNote_5 (x := 3) (y := znn i) (z := w (91 + 6 * i)) h1 h3
      exact ⟨l2, g1, by omega, g3⟩
    · exact ⟨l1, h1, h2, h3⟩
theorem sWk_lo {w : Nat → Int32} {s l : Nat} (hl : l ≤ 150) (h5 : w 5 = znn l) {j : Nat} (hj5 : j ≠ 5) (hj : j < 578 ∨ 1178 ≤ j) : ∀ i, sWk w s i j = w j
  | 0 => rfl
  | i + 1 => by
    obtain ⟨l1, h1, h2, h3⟩ := sWk_5 (s := s) hl h5 i
    unfold sWk
    split
    · rw [sNote_lo hj5 hj (by rw [h3, zn_zi (by omega)]; exact h1), sWk_lo hl h5 hj5 hj i]
    · exact sWk_lo hl h5 hj5 hj i
theorem sWk_F {w : Nat → Int32} {s l : Nat} (hl : l ≤ 150) (h5 : w 5 = znn l) (i : Nat) : rowF w (sWk w s i) := fun j h1 h2 => sWk_lo hl h5 (by omega) (by omega) i
theorem ruleOk_row {w w' : Nat → Int32} (h : rowF w w') (hr : ruleOk w) : ruleOk w' := by
  obtain ⟨c, h1, h2, h3, h4, h5⟩ := hr
  refine ⟨c, h1, (h 54 (by decide) (by decide)).trans h2, by rw [h 53 (by decide) (by decide)]; exact h3, fun j hj => by rw [h _ (by omega) (by omega)]; exact h4 j hj, fun S hS => ?_⟩
  rw [cRun_row h c 0 [] (by omega)]
  exact h5 S hS
theorem zw_zw {α : Type} (f : Nat → α) (o : Nat) (g g' : α) : zw (zw f o g) o g' = zw f o g' := by
  funext a
  unfold zw
  split <;> rfl
theorem works_r {B : ZI} {n k s l : Nat} (ht : B 148 30 = 1) (hl : l ≤ 150) (h5 : B 149 5 = znn l) (hk : wrkOk (B 149) n k) (hs : s < 4096) : f218_l69 (znn s) zfu 0 B = some (zw B 149 (sWk (B 149) s k)) := by
  have hk12 := hk.1
  have h52 := hk.2.1
  obtain ⟨r, h1, h2⟩ := zloop (fun fu (m : ZI) c => f218_l69 (znn s) fu c m) k (fun i m => m = zw B 149 (sWk (B 149) s i)) (fun r => r = zw B 149 (sWk (B 149) s k)) (fun fu i m hi hm => by
      subst hm
      left
      obtain ⟨l1, l2, l3, l4⟩ := sWk_5 (s := s) hl h5 i
      have e52 : (zw B 149 (sWk (B 149) s i)) 149 52 = znn k := by rw [zw_self, sWk_lo hl h5 (by decide) (by decide)]; exact h52
      have e30 : (zw B 149 (sWk (B 149) s i)) 148 30 = 1 := by rw [zw_ne _ _ (by decide)]; exact ht
      have e91 : (zw B 149 (sWk (B 149) s i)) 149 (90 + 1 + 6 * i) = B 149 (91 + 6 * i) := by rw [zw_self, sWk_lo hl h5 (by omega) (by omega)]
      refine ⟨_, rfl, ?_⟩
      (try dsimp only)
      rw [f218_l69, e52, if_pos ((zn_lt (by omega) (by omega)).mpr hi), zbit hs (by omega), show (1 : Int32) = znn 1 from rfl, ofWork_eq (by omega) (by omega), e91]
      simp only [Option.bind_some]
      rw [show znn i + znn 1 = znn (i + 1) from zadd1 i]
      by_cases hb : s.testBit i = true
      · rw [if_pos hb, if_pos rfl, note_r e30 l2 (by rw [zw_self]; exact l4)]
        simp only [Option.bind_some, zw_self, zw_zw, sWk, if_pos hb]
      · rw [if_neg hb, if_neg (by decide)]
        simp only [sWk, if_neg hb]) (fun fu m hm => by
      subst hm
      have e52 : (zw B 149 (sWk (B 149) s k)) 149 52 = znn k := by rw [zw_self, sWk_lo hl h5 (by decide) (by decide)]; exact h52
      refine ⟨_, rfl, ?_⟩
      (try dsimp only)
      rw [f218_l69, e52, if_neg (by rw [zn_lt (by omega) (by omega)]; omega)]) zfu 0 B (by omega) (by rw [zfu_eq]; omega) (by
      show B = zw B 149 (B 149)
      funext o
      unfold zw
      split
      · rename_i h; rw [h]
      · rfl)
  have h1 : f218_l69 (znn s) zfu 0 B = some r := h1
  rw [h1, h2]
theorem land_works {M : ZI} {R : ZF} {L : ZY} {t b n k l s : Nat} {w : Nat → Int32} (h : landIs M R L t b w n k) (hL : L.length ≤ 700000) (hn : n ≤ 10) (hk : k ≤ 9) (hwk : wrkOk w n k) (hr : ruleOk w) (hl : l ≤ 150) (h5 : w 5 = znn l) (hs : s < 4096) :
    ∃ M' R' L', g98_l138 t 1 (znn s) zfu 0 M R L = some (M', R', L') ∧ landIs M' R' L' t b (sWk w s k) n k ∧ hFr (ownL t b n) M R L M' R' L' ∧ (∃ X, L' = L ++ X ∧ X.length ≤ k ∧ (X.map Prod.snd).sum ≤ 4 * k) ∧ R' t = R t := by
  obtain ⟨r, h1, h2⟩ := zloop (fun fu (a : ZI × ZF × ZY) c => g98_l138 t 1 (znn s) fu c a.1 a.2.1 a.2.2) k (fun i a => landIs a.1 a.2.1 a.2.2 t b (sWk w s i) n k ∧ hFr (ownL t b n) M R L a.1 a.2.1 a.2.2 ∧ (∃ X, a.2.2 = L ++ X ∧ X.length ≤ i ∧ (X.map Prod.snd).sum ≤ 4 * i) ∧ a.2.1 t = R t)
    (fun r => landIs r.1 r.2.1 r.2.2 t b (sWk w s k) n k ∧ hFr (ownL t b n) M R L r.1 r.2.1 r.2.2 ∧ (∃ X, r.2.2 = L ++ X ∧ X.length ≤ k ∧ (X.map Prod.snd).sum ≤ 4 * k) ∧ r.2.1 t = R t) (fun fu i a hi ha => by
      obtain ⟨m, r, y⟩ := a
      obtain ⟨a1, a2, ⟨X, a3, a4, a5⟩, a6⟩ := ha
      simp only at a1 a2 a3 a6
      left
      obtain ⟨l1, l2, l3, l4⟩ := sWk_5 (s := s) hl h5 i
      have hy : y.length ≤ 800000 := by rw [a3]; simp; omega
      obtain ⟨⟨o1, -⟩, -, -, hW, -, -, -⟩ := id a1
      obtain ⟨a, q, w1, w2, w3, w4⟩ := land_wrk hW (by omega) (by omega)
      obtain ⟨v1, v2, v3, v4⟩ := w4 i hi
      have g1 : gar y (q i) 0 1 = true := v3 1 (by decide)
      have e1 : m (q i) 1 = w (91 + 6 * i) := by rw [v4 1 (by decide), sWk_lo hl h5 (by omega) (by omega)]
      have zp : zi (znn i) = i := zn_zi (by omega)
      have go := gob_of o1 (lay_lt o1 (by omega))
      by_cases hb : s.testBit i = true
      · obtain ⟨M', R', L', b1, b2, b3, ⟨Y, b4, b5, b6⟩, b7⟩ := land_note (x := 3) (y := znn i) (z := w (91 + 6 * i)) a1 hy hn hk (ruleOk_row (sWk_F hl h5 i) hr) l2 l4
        refine ⟨(M', R', L'), ⟨by simp only [sWk, if_pos hb]; exact b2, hFr_trans a2 b3, ⟨X ++ Y, by simp only; rw [b4, a3, List.append_assoc], by simp; omega, by simp; omega⟩, b7.trans a6⟩, ?_⟩
        simp only [g98_l138]
        rw [if_pos go, w1]
        simp only [Option.bind_some]
        rw [if_pos w2, w3, show Int32.ofNat k = znn k from rfl, if_pos ((zn_lt (by omega) (by omega)).mpr hi), zbit hs (by omega), if_pos hb, if_pos rfl]
        simp only [v1, v2, zp, g1, if_true, Option.bind_some, zi_l1, e1, b1]
        rw [zadd1]
      · refine ⟨(m, r, y), ⟨by simp only [sWk, if_neg hb]; exact a1, a2, ⟨X, a3, by omega, by omega⟩, a6⟩, ?_⟩
        simp only [g98_l138]
        rw [if_pos go, w1]
        simp only [Option.bind_some]
        rw [if_pos w2, w3, show Int32.ofNat k = znn k from rfl, if_pos ((zn_lt (by omega) (by omega)).mpr hi), zbit hs (by omega), if_neg hb, if_neg (by decide), zadd1]) (fun fu a ha => by
      obtain ⟨m, r, y⟩ := a
      obtain ⟨a1, a2, ⟨X, a3, a4, a5⟩, a6⟩ := id ha
      simp only at a1 a2 a3 a6
      have hy : y.length ≤ 800000 := by rw [a3]; simp; omega
      obtain ⟨⟨o1, -⟩, -, -, hW, -, -, -⟩ := id a1
      obtain ⟨a, q, w1, w2, w3, w4⟩ := land_wrk hW (by omega) (by omega)
      refine ⟨(m, r, y), ha, ?_⟩
      simp only [g98_l138]
      rw [if_pos (gob_of o1 (lay_lt o1 (by omega))), w1]
      simp only [Option.bind_some]
      rw [if_pos w2, w3, show Int32.ofNat k = znn k from rfl, if_neg (by rw [zn_lt (by omega) (by omega)]; omega)]) zfu 0 (M, R, L) (by omega) (by rw [zfu_eq]; omega) ⟨h, hFr_refl, ⟨[], by simp, by simp, by simp⟩, rfl⟩
  obtain ⟨m, r, y⟩ := r
  exact ⟨m, r, y, h1, h2⟩
def growR (v : Nat → Int32) (x : Int32) (n : Nat) : Nat → Int32 := fun j => if 37 ≤ j ∧ j < 37 + n then (if x = znn (j - 37) then 0 else v j + 1) else if 17 ≤ j ∧ j < 17 + n then zmin 99 (v j + 1) else v j
theorem growR_F {v : Nat → Int32} {x : Int32} {n : Nat} (hn : n ≤ 10) : rowF v (growR v x n) := fun j h1 h2 => by
  unfold growR
  rw [if_neg (by omega), if_neg (by omega)]
theorem growR_lo {v : Nat → Int32} {x : Int32} {n j : Nat} (h1 : ¬ (37 ≤ j ∧ j < 37 + n)) (h2 : ¬ (17 ≤ j ∧ j < 17 + n)) : growR v x n j = v j := by
  unfold growR
  rw [if_neg h1, if_neg h2]
theorem growR_37 {v : Nat → Int32} {x : Int32} {n q : Nat} (hq : q < n) : growR v x n (37 + q) = if x = znn q then 0 else v (37 + q) + 1 := by
  unfold growR
  rw [if_pos (by omega), show 37 + q - 37 = q by omega]
theorem growR_17 {v : Nat → Int32} {x : Int32} {n q : Nat} (hn : n ≤ 10) (hq : q < n) : growR v x n (17 + q) = zmin 99 (v (17 + q) + 1) := by
  unfold growR
  rw [if_neg (by omega), if_pos (by omega)]
theorem land_grow {M : ZI} {R : ZF} {L : ZY} {t b n k : Nat} {w : Nat → Int32} {x : Int32} (h : landIs M R L t b w n k) (hL : L.length ≤ 900000) (hn : n ≤ 10) (hk : k ≤ 9) (h48 : w 48 = znn n) (hr : ruleOk w) :
    ∃ M', g98_l245 t x R L zfu 0 M = some M' ∧ landIs M' R L t b (growR w x n) n k ∧ hFr (ownL t b n) M R L M' R L := by
  obtain ⟨⟨o1, o2, o3, o4, o5, o6⟩, ⟨f0, f1, f2, f3, f4, f5, f6, f7, f8, f9⟩, ⟨hb, hP⟩, hW, hB, hC, hLw⟩ := id h
  have bt : ∀ p, p < n → b + p ≠ t := fun p hp hh => by have := (hP p hp).2.1; rw [hh, o1] at this; cases this
  obtain ⟨m, h1, h2, h3⟩ := zloop (fun fu (m : ZI) c => g98_l245 t x R L fu c m) n (fun i m => (∀ c, (∀ q, q < n → c ≠ b + q) → m c = M c) ∧ ∀ q, q < n → m (b + q) = if q < i then upd (upd (M (b + q)) 4 (if znn q = x then 0 else M (b + q) 4 + 1)) 0 (zmin 99 (M (b + q) 0 + 1)) else M (b + q))
    (fun m => (∀ c, (∀ q, q < n → c ≠ b + q) → m c = M c) ∧ ∀ q, q < n → m (b + q) = upd (upd (M (b + q)) 4 (if znn q = x then 0 else M (b + q) 4 + 1)) 0 (zmin 99 (M (b + q) 0 + 1))) (fun fu i m hi hm => by
      obtain ⟨g1, g2⟩ := hm
      left
      obtain ⟨p1, p2, -⟩ := hP i hi
      have gi : gar L (t + 1) 51 (znn i) = true := gar10 o2 hL (by omega)
      have g4 : gar L (b + i) 0 4 = true := gar7 p2 hL (j := 4) (by decide)
      have g0 : gar L (b + i) 0 0 = true := gar7 p2 hL (j := 0) (by decide)
      have zp : zi (znn i) = i := zn_zi (by omega)
      have et : m t 7 = znn n := by rw [g1 t (fun q hq hh => bt q hq hh.symm), f7]; exact h48
      have ei := g2 i hi
      rw [if_neg (Nat.lt_irrefl i)] at ei
      refine ⟨zs (zs m (b + i) 4 (if znn i = x then 0 else M (b + i) 4 + 1)) (b + i) 0 (zmin 99 (M (b + i) 0 + 1)), ⟨fun c hc => ?_, fun q hq => ?_⟩, ?_⟩
      · rw [zs_df (hc i hi), zs_df (hc i hi)]
        exact g1 c hc
      · by_cases hqi : q = i
        · subst hqi
          rw [if_pos (Nat.lt_succ_self q)]
          simp only [zs_ap, if_true, ei]
        · have : b + q ≠ b + i := by omega
          rw [zs_df this, zs_df this, g2 q hq]
          by_cases hlt : q < i
          · rw [if_pos hlt, if_pos (show q < i + 1 by omega)]
          · rw [if_neg hlt, if_neg (show ¬ q < i + 1 by omega)]
      · simp only [g98_l245]
        rw [if_pos (gob_of o1 (lay_lt o1 hL)), et, if_pos ((zn_lt (by omega) (by omega)).mpr hi), o4]
        simp only [Option.bind_some, gi, g4, g0, zp, p1, if_true, zlet, zi_l0, zi_l4, zs_sm, ei]
        by_cases hx : znn i = x
        · simp only [if_pos hx, Option.bind_some, zadd1]
          rfl
        · simp only [if_neg hx, Option.bind_some, zadd1]
          rfl) (fun fu m hm => by
      obtain ⟨g1, g2⟩ := hm
      have et : m t 7 = znn n := by rw [g1 t (fun q hq hh => bt q hq hh.symm), f7]; exact h48
      refine ⟨m, ⟨g1, fun q hq => by rw [g2 q hq, if_pos hq]⟩, ?_⟩
      simp only [g98_l245]
      rw [if_pos (gob_of o1 (lay_lt o1 hL)), et, if_neg (by rw [zn_lt (by omega) (by omega)]; omega)]) zfu 0 M (by omega) (by rw [zfu_eq]; omega) ⟨fun _ _ => rfl, fun q hq => by rw [if_neg (Nat.not_lt_zero q)]⟩
  have hfr : hFr (ownL t b n) M R L m R L := ⟨⟨[], by simp⟩, fun c hc ho => ⟨h2 c (fun q hq hh => ho (Or.inr (Or.inr (Or.inr ⟨by omega, by omega⟩)))), rfl⟩⟩
  have hmt : m t = M t := h2 t (fun q hq hh => bt q hq hh.symm)
  refine ⟨m, h1, landIs_step h hk (growR_F hn) hr hfr ⟨o1, o2, o3, o4, o5, o6⟩ ?_ ⟨hb, fun p hp => ?_⟩ (fun i hi => ?_) rfl rfl rfl, hfr⟩
  · unfold lndF
    rw [hmt, growR_lo (by omega) (by omega), growR_lo (by omega) (by omega), growR_lo (by omega) (by omega), growR_lo (by omega) (by omega), growR_lo (by omega) (by omega), growR_lo (by omega) (by omega), growR_lo (by omega) (by omega), growR_lo (by omega) (by omega), growR_lo (by omega) (by omega), growR_lo (by omega) (by omega)]
    exact ⟨f0, f1, f2, f3, f4, f5, f6, f7, f8, f9⟩
  · obtain ⟨p1, p2, q0, q1, q2, q3, q4, q5, q6⟩ := hP p hp
    refine ⟨p1, p2, ?_⟩
    unfold lndQ
    rw [h3 p hp, growR_37 hp, growR_17 hn hp, growR_lo (by omega) (by omega), growR_lo (by omega) (by omega), growR_lo (by omega) (by omega), growR_lo (by omega) (by omega), growR_lo (by omega) (by omega)]
    simp only [upd_ap]
    refine ⟨by rw [if_pos trivial, q0], q1, q2, q3, ?_, q5, q6⟩
    rw [if_neg (by decide), if_pos trivial, q4]
    by_cases hx : znn p = x
    · rw [if_pos hx, if_pos hx.symm]
    · rw [if_neg hx, if_neg (fun hh => hx hh.symm)]
  · rw [growR_lo (by omega) (by omega)] at hi
    obtain ⟨r, r1, r2, r3, r4⟩ := hB i hi
    have hrb : ∀ q, q < n → r ≠ b + q := fun q hq hh => by have := (hP q hq).2.1; rw [← hh, r3] at this; cases this
    refine ⟨r, r1, r2, r3, fun f hf => ?_⟩
    rw [h2 r hrb, r4 f hf, growR_lo (by omega) (by omega)]
