-- ===== voices drawn, told and read =====
theorem sbW_fin {M : ZI} {R : ZF} {L0 L : ZY} {s v N S : Nat} {tx : List Nat} (h : sbW L0 M R L s v tx N S) (ha : ascN tx) (hC : tx.length ≤ 1000) (hL : L0.length + N ≤ 700000) : ∃ M' R' L', g133_toString s M R L = some (L.length, M', R', L') ∧ strIs M' R' L' L.length (L.length + 1) (tx.map znn) ∧ hFr (fun _ => False) M R L M' R' L' ∧ ∃ X, L' = L0 ++ X ∧ X.length ≤ N + 2 ∧ (X.map Prod.snd).sum ≤ S + 4 + tx.length := by
  have hl := sbW_len h
  obtain ⟨⟨cap, h1⟩, h2, h3, h5⟩ := h
  obtain ⟨M', R', e1, e2, e3⟩ := sb_toString h1 (fun x hx => by
    obtain ⟨k, hk, rfl⟩ := List.mem_map.mp hx
    exact ⟨k, ha k hk, rfl⟩) (by simp; omega) (by omega)
  refine ⟨M', R', _, e1, e2, e3, ?_⟩
  obtain ⟨X, a1, a2, a3⟩ := room_add h5 (L' := L ++ [(15, 4), (50, (tx.map znn).length)]) (N2 := 2) (S2 := 4 + tx.length) ⟨_, rfl, by simp, by simp⟩
  exact ⟨X, a1, a2, by omega⟩
theorem cRun_on {S c : Nat} {w w' : Nat → Int32} (h : ∀ i, i < c → w' (162 + i) = w (162 + i)) : ∀ k i st, i + k ≤ c → cRun S w' k i st = cRun S w k i st := by
  intro k
  induction k with
  | zero => intro i st _; rw [cRun, cRun]
  | succ k ih =>
    intro i st hk
    rw [cRun, cRun, h i (by omega)]
    cases cStep S (w (162 + i)) st with
    | none => rw [Option.bind_none, Option.bind_none]
    | some s1 =>
      rw [Option.bind_some, Option.bind_some]
      exact ih (i + 1) s1 (by omega)
theorem sSat_on {w w' : Nat → Int32} (hr : ruleOk w) (h54 : w' 54 = w 54) (h : ∀ i, i < 400 → w' (162 + i) = w (162 + i)) (S : Nat) : sSat w' S = sSat w S := by
  obtain ⟨c, hc, e54, -⟩ := hr
  unfold sSat
  rw [h54, e54, zn_zi (by omega), cRun_on (c := c) (fun i hi => h i (by omega)) c 0 [] (by omega)]
/-- the second half of the texts: the works -/
def g116_w (a1 : Nat) (a2 : Int32) (M88 : ZI) (R84 : ZF) (L85 : ZY) : Option (Int32 × ZH) :=
  if gob L85 a1 10 = true then ((if (M88 a1 7) = 0 then some (0 : Int32) else (g115_between (zshr a2 (5 : Int32)) (0 : Int32) (9 : Int32)).bind fun v90 => some v90) : Option (Int32)).bind fun v91 =>
  if gfr L85 = true then gnew M88 R84 L85 14 4 fun (r93 : Nat) (M94 : ZI) (R95 : ZF) (L96 : ZY) => if gin r93 = true then (g117_init r93 M94 R95 L96).bind fun (M98, R99, L100) => if gnn v91 = true then if gfr L100 = true then gnew M98 R99 L100 51 (zi v91) fun (r103 : Nat) (M104 : ZI) (R105 : ZF) (L106 : ZY) => if gob L106 a1 10 = true then if gin r103 = true then zlet (zr R105 a1 11 (some r103)) fun (R109 : ZF) => zlet (zs M104 a1 9 (0 : Int32)) fun (M110 : ZI) => (g116_l207 a1 a2 v91 r93 zfu (0 : Int32) M110 R109 L106).bind fun (M283, R284, L285) =>
  if gob L285 r93 11 = true then (g133_toString r93 M283 R284 L285).bind fun (r291, M292, R293, L294) => (g145_say r291 M292 R293 L294).bind fun (M295, R296, L297) => if zgood R296 L297 = true then (f52_text (2 : Int32) M295).bind fun (v299, M300) => (if v299 = v91 then some ((1 : Int32), M300, R296, L297) else some ((0 : Int32), M300, R296, L297)) else none else none else none else none else none else none else none else none else none
def voiB (B B' : ZI) (x : Int32) (n : Nat) : Prop := (∀ o, o ≠ 148 → o ≠ 149 → o ≠ 155 → o ≠ 158 → B' o = B o) ∧ (∀ j, j ≠ 51 → ¬ (80 ≤ j ∧ j < 90) → B' 149 j = B 149 j) ∧ (∀ i, i < n → B' 149 (80 + i) = vOf (dV x n) i) ∧ B' 148 19 = 0 ∧ B' 148 4 = 0
theorem texts_one {M B : ZI} {R : ZF} {L : ZY} {t b n : Nat} (x : Int32) (hI : Inv2 M B) (hO : lndO R L t) (h7 : M t 7 = znn n) (hb : 148 ≤ b) (hP : ∀ p, p < n → R (t + 1) p = some (b + p) ∧ L[b + p]? = some (0, 7)) (hz : zgood R L = true) (hL : L.length ≤ 500000) (h48 : B 149 48 = znn n) (hn : n ≤ 10) (h19 : B 148 19 = 0) : ∃ M' R' L' B', g116_texts t x M R L = g116_w t x M' R' L' ∧ Inv2 M' B' ∧ gF (ownR b n) M R L M' R' L' ∧ voiB B B' x n ∧ (∀ p j, p < n → j ≠ 5 → M' (b + p) j = M (b + p) j) ∧ (∀ p, p < n → M' (b + p) 5 = vOf (dV x n) p) ∧ ∃ X, L' = L ++ X ∧ X.length ≤ 150 ∧ (X.map Prod.snd).sum ≤ 6000 := by
  obtain ⟨o1, o2, o3, o4, o5, o6⟩ := hO
  have h148 := zg_len hz
  have lt := lay_le o1
  have go : gob L t 10 = true := gob_of o1 (by omega)
  obtain ⟨M1, R1, e1, b1⟩ := sbo_new (M := M) (R := R) (L := L) (by omega) h148
  have hg1 : gF (ownR b n) M R L M1 R1 (L ++ [(14, 4)] ++ [(50, 16)]) := gF_wide (gF_hFr b1.2.2.2.1 h148 (fun _ hh => hh.elim)) (fun _ _ hh => hh.elim)
  have hrow1 : ∀ p j, p < n → M1 (b + p) j = M (b + p) j := fun p j hp => by
    rw [(b1.2.2.2.1.2 (b + p) (lay_le (hP p hp).2) (fun hh => hh)).1]
  have e7 : M1 t 7 = znn n := by rw [(b1.2.2.2.1.2 t lt (fun hh => hh)).1]; exact h7
  obtain ⟨M2, R2, L2, v2, e2, g2, r2, s2, cl2, w2⟩ := voices_heap (t := t) (x := x) hn o1 o2 o4 o6 h7 hb hP h148 (by omega) n zfu 0 M1 R1 _ _ [] 2 20 (by rw [zfu_eq]; omega) (Nat.le_refl _) (by omega) hg1 (fun p j hp _ => hrow1 p j hp) (fun p q1 q2 => by omega) (fun c hc => (b1.2.2.2.1.2 c (by omega) (fun hh => hh)).1) (sbW_of b1) rfl (by omega)
  rw [Nat.zero_add] at e2
  have e2' : g116_l19 t x L.length zfu 0 (znn n - 1) M1 R1 (L ++ [(14, 4)] ++ [(50, 16)]) = some (znn (vCt (dV x n) n), M2, R2, L2) := e2
  have hvv : ∀ p q, p < n → dV x n p = some q → q < n ∧ q ≠ p := fun p q hp hq => dV_ok (by omega) hq
  obtain ⟨aT, lT⟩ := vTx_ok (vv := dV x n) n hn (fun p q hp hq => by have := (hvv p q hp hq).1; omega)
  obtain ⟨M3, R3, L3, e3, s3, f3, x3⟩ := sbW_fin w2 aT (by omega) (by omega)
  have hl2 := sbW_len w2
  have hg3 : gF (ownR b n) M R L M3 R3 L3 := gF_trans g2 (gF_wide (gF_hFr f3 (by omega) (fun _ hh => hh.elim)) (fun _ _ hh => hh.elim))
  obtain ⟨X3, x31, x32, x33⟩ := id x3
  have hl3 : L3.length ≤ L.length + 94 := by rw [x31]; simp; omega
  have hI3 : Inv2 M3 B := Inv2_of hI (fun o ho => by rw [(f3.2 o (by omega) (fun hh => hh)).1, cl2 o ho]) (fun _ _ => rfl)
  obtain ⟨M4, R4, L4, B4, e4, g4, x4, hI4, tp4, bb, tb, ob, rb⟩ := say_tx (by omega) aT s3 (zgood_gF hg3 hz) (by omega) hI3 h19
  have hg4 : gF (ownR b n) M R L M4 R4 L4 := gF_trans hg3 (gF_evo g4 (by rw [x31]; simp; omega))
  obtain ⟨B5, p1, p2, p3, p4, p5, p6, p7⟩ := text_voices tb ob hn (by rw [tp4.1 149 (by decide) (by decide)]; exact h48) hvv rb
  obtain ⟨M5, c1, c2, c3⟩ := call_r (sync_text 1) hI4 p1
  have hrow : ∀ p j, p < n → M5 (b + p) j = M2 (b + p) j := fun p j hp => by
    have q1 := (hP p hp).2
    have q2 := lay_le (gF_lay g2 q1)
    rw [c3 _ (by omega), g4.2.1 _ (by omega) (lay_le (gF_lay hg3 q1)), (f3.2 _ q2 (fun hh => hh)).1]
  refine ⟨M5, R4, L4, B5, ?_, c2, gF_trans hg4 (gF_call c3), ⟨fun o q1 q2 q3 q4 => by rw [p2 o q1 q2 q3, tp4.1 o q1 q4], fun j q1 q2 => by rw [p5 j q1 q2, tp4.1 149 (by decide) (by decide)], fun i hi => by rw [p3 i (by omega), if_pos hi], p6, p7⟩, fun p j hp hj => by rw [hrow p j hp]; exact r2 p j hp hj, fun p hp => by rw [hrow p 5 hp]; exact s2 p hp, ?_⟩
  · unfold g116_texts
    rw [if_pos (gfr_of (by omega))]
    simp only [gnew]
    rw [if_pos (show gin L.length = true from Nat.blt_eq.mpr (by omega)), e1]
    simp only [Option.bind_some, zlet]
    rw [if_pos (gob_of (gF_lay hg1 o1) (by omega)), e7, e2']
    simp only [Option.bind_some]
    rw [if_pos (gob_of hl2.2.2.2.2.1 (by omega)), e3]
    simp only [Option.bind_some]
    rw [e4]
    simp only [Option.bind_some]
    rw [if_pos (zgood_gF hg4 hz), c1]
    simp only [Option.bind_some]
    rw [if_pos trivial]
    rfl
  · obtain ⟨X, z1, z2, z3⟩ := room_add x3 x4
    exact ⟨X, z1, by omega, by omega⟩
