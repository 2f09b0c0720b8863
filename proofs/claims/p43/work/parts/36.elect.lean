-- ===== VOICES: who is GIVEN, on both sides =====
theorem zn_or (a b : Nat) : znn a ||| znn b = znn (a ||| b) := Int32.toBitVec_inj.1 (by
  show BitVec.ofNat 32 a ||| BitVec.ofNat 32 b = BitVec.ofNat 32 (a ||| b)
  exact BitVec.ofNat_or.symm)
theorem zn_and (a b : Nat) : znn a &&& znn b = znn (a &&& b) := Int32.toBitVec_inj.1 (by
  show BitVec.ofNat 32 a &&& BitVec.ofNat 32 b = BitVec.ofNat 32 (a &&& b)
  exact BitVec.ofNat_and.symm)
theorem zn_xor (a b : Nat) : znn a ^^^ znn b = znn (a ^^^ b) := Int32.toBitVec_inj.1 (by
  show BitVec.ofNat 32 a ^^^ BitVec.ofNat 32 b = BitVec.ofNat 32 (a ^^^ b)
  exact BitVec.ofNat_xor.symm)
theorem or_pow_lt {s i n : Nat} (h : s < 2 ^ n) (hi : i < n) : s ||| 2 ^ i < 2 ^ n := Nat.or_lt_two_pow h (Nat.pow_lt_pow_right (by decide) hi)
def sSum (w vo : Nat → Int32) (p : Nat) : Nat → Nat
  | 0 => 0
  | m + 1 => sSum w vo p m + (if vo m = znn p then zi (sAsk w 20 m 0) else 0)
def sNam (vo : Nat → Int32) (p : Nat) : Nat → Nat
  | 0 => 0
  | m + 1 => if vo m = znn p then sNam vo p m ||| 2 ^ m else sNam vo p m
def sBef (w vo : Nat → Int32) (n p : Nat) : Option Nat → Bool
  | none => true
  | some q => decide (sSum w vo q n < sSum w vo p n) || (decide (sSum w vo p n = sSum w vo q n) && decide (w (60 + q) < w (60 + p)))
def sGiv (w vo : Nat → Int32) (n : Nat) : Nat → Option Nat
  | 0 => none
  | i + 1 => if 0 < sSum w vo i n ∧ sSat w (sNam vo i n) = 1 ∧ sBef w vo n i (sGiv w vo n i) = true then some i else sGiv w vo n i
def optI : Option Nat → Int32
  | none => -1
  | some p => znn p
theorem ask20 (w : Nat → Int32) (p : Nat) : ∃ k, k ≤ 24 ∧ sAsk w 20 p 0 = znn k ∧ zi (sAsk w 20 p 0) = k := by
  obtain ⟨k, hk, h⟩ := sAsk_range (w := w) (W' := 20) (p := p) (u := 0) (by decide) (Or.inl rfl)
  exact ⟨k, hk, h, by rw [h, zn_zi (by omega)]⟩
theorem sSum_le (w vo : Nat → Int32) (p : Nat) : ∀ m, sSum w vo p m ≤ 24 * m
  | 0 => Nat.le_refl _
  | m + 1 => by
    have := sSum_le w vo p m
    obtain ⟨k, hk, -, h⟩ := ask20 w m
    unfold sSum
    split <;> omega
theorem sNam_lt (vo : Nat → Int32) (p : Nat) : ∀ m, sNam vo p m < 2 ^ m
  | 0 => Nat.one_pos
  | m + 1 => by
    have := sNam_lt vo p m
    unfold sNam
    split
    · exact or_pow_lt (by rw [Nat.pow_succ]; omega) (by omega)
    · rw [Nat.pow_succ]; omega
theorem sNam_1024 (vo : Nat → Int32) (p n : Nat) (hn : n ≤ 10) : sNam vo p n < 1024 :=
  Nat.lt_of_lt_of_le (sNam_lt vo p n) (Nat.pow_le_pow_right (by decide) hn)
theorem sGiv_lt (w vo : Nat → Int32) (n : Nat) : ∀ i p, sGiv w vo n i = some p → p < i ∧ 0 < sSum w vo p n
  | 0, p, h => by cases h
  | i + 1, p, h => by
    unfold sGiv at h
    split at h
    · rename_i h1
      cases h
      exact ⟨by omega, h1.1⟩
    · have := sGiv_lt w vo n i p h
      exact ⟨by omega, this.2⟩
theorem optI_none : optI none = -1 := rfl
theorem zz80 {v : Nat} (hv : v < 2147480000) : zi (80 + znn v) = 80 + v := by
  rw [zl80, zn_add, zn_zi (by omega)]
theorem zx80 {v : Nat} (hv : v < 10) : zin (80 + znn v) 2064 = true := by
  rw [zl80, zn_add]
  exact (zn_zin (by omega)).mpr (by omega)
theorem zadd1 (i : Nat) : znn i + 1 = znn (i + 1) := zn_add i 1
/-- the reference: the weights that name p -/
theorem sum_ref {M : ZI} {w : Nat → Int32} {n c Y p : Nat} (hw : M 149 = w) (hok : askOk w n c) (hmo : momOk w n Y) :
    ∃ M', f206_sumFor (znn p) M = some (znn (sSum w (fun v => w (80 + v)) p n), M') ∧ ∀ o, o ≠ 159 → o ≠ 160 → M' o = M o := by
  have hn10 := hok.1
  have h48 := hok.2.1
  obtain ⟨r, h1, h2, h3⟩ := zloop (fun f (a : Int32 × ZI) c => f206_l4 (znn p) f a.1 c a.2) n (fun i a => a.1 = znn (sSum w (fun v => w (80 + v)) p i) ∧ ∀ o, o ≠ 159 → o ≠ 160 → a.2 o = M o)
    (fun r : Int32 × ZI => r.1 = znn (sSum w (fun v => w (80 + v)) p n) ∧ ∀ o, o ≠ 159 → o ≠ 160 → r.2 o = M o) (fun f i a hi ha => by
      obtain ⟨a1, a2⟩ := a
      obtain ⟨rfl, g⟩ := ha
      simp only at g
      have gw : a2 149 = w := (g 149 (by decide) (by decide)).trans hw
      left
      simp only [f206_l4]
      rw [gw, h48, if_pos ((zn_lt (by omega) (by omega)).mpr hi), if_pos (zx80 (by omega)), zz80 (by omega)]
      by_cases hv : w (80 + i) = znn p
      · rw [if_pos hv]
        obtain ⟨M1, b1, b2⟩ := weight_ref gw hi hok hmo
        rw [b1]
        obtain ⟨q, hq, e1, e2⟩ := ask20 w i
        refine ⟨(znn (sSum w (fun v => w (80 + v)) p (i + 1)), M1), ⟨rfl, fun o h1 h2 => (b2 o h1 h2).trans (g o h1 h2)⟩, ?_⟩
        simp only [Option.bind_some, zlet, sSum, if_pos hv]
        rw [e1, zn_add, zn_zi (by omega), zadd1]
      · rw [if_neg hv]
        refine ⟨(znn (sSum w (fun v => w (80 + v)) p (i + 1)), a2), ⟨rfl, g⟩, ?_⟩
        simp only [zlet, sSum, if_neg hv, Nat.add_zero, Int32.add_zero]
        rw [zadd1]) (fun f a ha => by
      obtain ⟨a1, a2⟩ := a
      obtain ⟨rfl, g⟩ := ha
      simp only at g
      refine ⟨(znn (sSum w (fun v => w (80 + v)) p n), a2), ⟨rfl, g⟩, ?_⟩
      simp only [f206_l4]
      rw [show a2 149 = w from (g 149 (by decide) (by decide)).trans hw, h48, if_neg (by rw [zn_lt (by omega) (by omega)]; omega)]) zfu 0 (0, M) (by omega) (by rw [zfu_eq]; omega) ⟨rfl, fun _ _ _ => rfl⟩
  obtain ⟨r1, r2⟩ := r
  refine ⟨r2, ?_, h3⟩
  have h1 : f206_l4 (znn p) zfu 0 0 M = some (r1, r2) := h1
  rw [f206_sumFor, h1]
  simp only at h2
  rw [h2]
  rfl
theorem nam_ref {M : ZI} {w : Nat → Int32} {n p : Nat} (hw : M 149 = w) (hn10 : n ≤ 10) (h48 : w 48 = znn n) : f214_voicesFor (znn p) M = some (znn (sNam (fun v => w (80 + v)) p n)) := by
  obtain ⟨r, h1, h2⟩ := zloop (fun f (a : Int32) c => f214_l4 (znn p) M f a c) n (fun i a => a = znn (sNam (fun v => w (80 + v)) p i)) (fun r => r = znn (sNam (fun v => w (80 + v)) p n)) (fun f i a hi ha => by
      subst ha
      left
      refine ⟨_, rfl, ?_⟩
      simp only [f214_l4]
      rw [hw, h48, if_pos ((zn_lt (by omega) (by omega)).mpr hi), if_pos (zx80 (by omega)), zz80 (by omega)]
      by_cases hv : w (80 + i) = znn p
      · rw [if_pos hv]
        simp only [zlet, sNam, if_pos hv]
        rw [zl1, zn_shl (by omega), zn_or, zn_add]
      · rw [if_neg hv]
        simp only [zlet, sNam, if_neg hv, Int32.or_zero]
        rw [zadd1]) (fun f a ha => by
      subst ha
      refine ⟨_, rfl, ?_⟩
      simp only [f214_l4]
      rw [hw, h48, if_neg (by rw [zn_lt (by omega) (by omega)]; omega)]) zfu 0 0 (by omega) (by rw [zfu_eq]; omega) rfl
  have h1 : f214_l4 (znn p) M zfu 0 0 = some r := h1
  rw [f214_voicesFor, h1, h2]
  rfl
theorem bef_ref {M : ZI} {w : Nat → Int32} {n c Y p : Nat} {q : Option Nat} (hw : M 149 = w) (hok : askOk w n c) (hmo : momOk w n Y) (hp : p < n) (hq : ∀ x, q = some x → x < n) :
    ∃ M', f216_isBefore (znn p) (optI q) M = some (if sBef w (fun v => w (80 + v)) n p q = true then 1 else 0, M') ∧ ∀ o, o ≠ 159 → o ≠ 160 → M' o = M o := by
  have hn10 := hok.1
  unfold f216_isBefore
  cases q with
  | none =>
    rw [if_pos optI_none]
    exact ⟨M, rfl, fun _ _ _ => rfl⟩
  | some q =>
    have hq := hq q rfl
    rw [if_neg (show ¬ optI (some q) = -1 from zn_ne_neg (by omega))]
    obtain ⟨M1, a1, a2⟩ := sum_ref (p := p) hw hok hmo
    obtain ⟨M2, b1, b2⟩ := sum_ref (M := M1) (p := q) ((a2 149 (by decide) (by decide)).trans hw) hok hmo
    have g : ∀ o, o ≠ 159 → o ≠ 160 → M2 o = M o := fun o h1 h2 => (b2 o h1 h2).trans (a2 o h1 h2)
    refine ⟨M2, ?_, g⟩
    rw [a1]
    have eq : optI (some q) = znn q := rfl
    simp only [Option.bind_some]
    rw [eq, b1]
    simp only [Option.bind_some]
    have l1 := sSum_le w (fun v => w (80 + v)) p n
    have l2 := sSum_le w (fun v => w (80 + v)) q n
    have z1 : (60 : Int32) + znn p = znn (60 + p) := zn_add 60 p
    have z2 : (60 : Int32) + znn q = znn (60 + q) := zn_add 60 q
    rw [z1, z2, if_pos ((zn_zin (by omega)).mpr (by omega)), if_pos ((zn_zin (by omega)).mpr (by omega)), zn_zi (by omega), zn_zi (by omega), g 149 (by decide) (by decide), hw]
    simp only [zlet]
    have hbe : sBef w (fun v => w (80 + v)) n p (some q) = (decide (sSum w (fun v => w (80 + v)) q n < sSum w (fun v => w (80 + v)) p n) || (decide (sSum w (fun v => w (80 + v)) p n = sSum w (fun v => w (80 + v)) q n) && decide (w (60 + q) < w (60 + p)))) := rfl
    rw [hbe]
    clear hbe a1 b1
    generalize sSum w (fun v => w (80 + v)) p n = x at *
    generalize sSum w (fun v => w (80 + v)) q n = y at *
    by_cases h1 : y < x
    · rw [zn_sub (by omega), if_pos (zlt0 (by omega) (by omega))]
      simp [h1]
    · by_cases h2 : x = y
      · subst h2
        rw [zn_sub (by omega), Nat.sub_self, if_neg (show ¬ (0 : Int32) < znn 0 by decide), if_pos (show znn 0 = 0 from rfl)]
        by_cases h3 : w (60 + q) < w (60 + p)
        · simp [h3]
        · simp [h3]
      · have h3 : ∃ d, 1 ≤ d ∧ d ≤ 240 ∧ y = x + d := ⟨y - x, by omega, by omega, by omega⟩
        obtain ⟨d, hd1, hd2, rfl⟩ := h3
        have hneg : znn x - znn (x + d) = -znn d := by
          rw [← zn_add]
          grind
        have hn1 : ¬ (0 : Int32) < -znn d ∧ ¬ -znn d = 0 := by
          have : ∀ d : Fin 241, 1 ≤ d.val → ¬ (0 : Int32) < -znn d.val ∧ ¬ -znn d.val = 0 := by decide +kernel
          exact this ⟨d, by omega⟩ hd1
        rw [hneg, if_neg hn1.1, if_neg hn1.2]
        have h4 : ¬ x + d < x ∧ ¬ x = x + d := ⟨h1, h2⟩
        rw [decide_eq_false h4.1, decide_eq_false h4.2]
        rfl
theorem giv_ref {M : ZI} {w : Nat → Int32} {n c Y : Nat} (hw : M 149 = w) (hok : askOk w n c) (hmo : momOk w n Y) :
    ∃ M', f205_givenNow M = some (optI (sGiv w (fun v => w (80 + v)) n n), M') ∧ ∀ o, o ≠ 159 → o ≠ 160 → M' o = M o := by
  have hn10 := hok.1
  have h48 := hok.2.1
  have hru := hok.2.2.2
  generalize hvo : (fun v => w (80 + v)) = vo
  obtain ⟨r, h1, h2, h3⟩ := zloop (fun f (a : Int32 × ZI) c => f205_l4 f a.1 c a.2) n (fun i a => a.1 = optI (sGiv w vo n i) ∧ ∀ o, o ≠ 159 → o ≠ 160 → a.2 o = M o)
    (fun r : Int32 × ZI => r.1 = optI (sGiv w vo n n) ∧ ∀ o, o ≠ 159 → o ≠ 160 → r.2 o = M o) (fun f i a hi ha => by
      obtain ⟨a1, a2⟩ := a
      obtain ⟨rfl, g⟩ := ha
      simp only at g
      have gw : a2 149 = w := (g 149 (by decide) (by decide)).trans hw
      left
      simp only [f205_l4]
      rw [gw, h48, if_pos ((zn_lt (by omega) (by omega)).mpr hi), zadd1]
      obtain ⟨M1, b1, b2⟩ := sum_ref (p := i) gw hok hmo
      have g1 : ∀ o, o ≠ 159 → o ≠ 160 → M1 o = M o := fun o h1 h2 => (b2 o h1 h2).trans (g o h1 h2)
      have gw1 : M1 149 = w := (g1 149 (by decide) (by decide)).trans hw
      have l1 := sSum_le w vo i n
      rw [b1]
      simp only [Option.bind_some]
      rw [nam_ref gw1 hn10 h48, hvo]
      simp only [Option.bind_some]
      by_cases h1 : 0 < sSum w vo i n
      · rw [if_pos (zlt0 h1 (by omega))]
        obtain ⟨M2, c1, c2⟩ := sat_eq (M := M1) (sNam_1024 vo i n hn10) hru gw1
        have g2 : ∀ o, o ≠ 159 → o ≠ 160 → M2 o = M o := fun o h1 h2 => (c2 o h1).trans (g1 o h1 h2)
        rw [c1]
        simp only [Option.bind_some]
        rcases sSat_01 hru (sNam_1024 vo i n hn10) with h2 | h2
        · rw [h2, if_pos rfl]
          refine ⟨(optI (sGiv w vo n (i + 1)), M2), ⟨rfl, g2⟩, ?_⟩
          simp only [sGiv]
          rw [if_neg (fun h => by rw [h2] at h; exact absurd h.2.1 (by decide))]
        · rw [h2, if_neg (by decide)]
          obtain ⟨M3, d1, d2⟩ := bef_ref (M := M2) (p := i) (q := sGiv w vo n i) ((g2 149 (by decide) (by decide)).trans hw) hok hmo hi (fun x hx => by
            have := (sGiv_lt w vo n i x hx).1
            omega)
          have g3 : ∀ o, o ≠ 159 → o ≠ 160 → M3 o = M o := fun o h1 h2 => (d2 o h1 h2).trans (g2 o h1 h2)
          rw [d1, hvo]
          simp only [Option.bind_some]
          refine ⟨(optI (sGiv w vo n (i + 1)), M3), ⟨rfl, g3⟩, ?_⟩
          simp only [sGiv]
          by_cases h3 : sBef w vo n i (sGiv w vo n i) = true
          · rw [if_pos h3, if_neg (by decide), if_pos ⟨h1, h2, h3⟩]
            rfl
          · rw [if_neg h3, if_pos rfl, if_neg (fun h => h3 h.2.2)]
      · have h0 : sSum w vo i n = 0 := by omega
        rw [h0, if_neg (show ¬ (0 : Int32) < znn 0 by decide)]
        refine ⟨(optI (sGiv w vo n (i + 1)), M1), ⟨rfl, g1⟩, ?_⟩
        simp only [sGiv]
        rw [if_neg (fun h => h1 h.1)]) (fun f a ha => by
      obtain ⟨a1, a2⟩ := a
      obtain ⟨rfl, g⟩ := ha
      simp only at g
      refine ⟨(optI (sGiv w vo n n), a2), ⟨rfl, g⟩, ?_⟩
      simp only [f205_l4]
      rw [show a2 149 = w from (g 149 (by decide) (by decide)).trans hw, h48, if_neg (by rw [zn_lt (by omega) (by omega)]; omega)]) zfu 0 (-1, M) (by omega) (by rw [zfu_eq]; omega) ⟨rfl, fun _ _ _ => rfl⟩
  obtain ⟨r1, r2⟩ := r
  refine ⟨r2, ?_, h3⟩
  have h1 : f205_l4 zfu (-1) 0 M = some (r1, r2) := h1
  rw [f205_givenNow, h1]
  simp only at h2
  rw [h2]
  rfl
-- the class
theorem weigh_cls {M : ZI} {w : Nat → Int32} {a n k c b Y : Nat} (ha : a = 2 ∨ a = 114) (hf : fixIs M 1 w n k c b) (hok : fixOk w n k c b) (hm : momIs M a w n) (hmo : momOk w n Y) :
    ∃ M', f26_weigh 1 a M = some M' ∧ (∀ v, v < n → M' 40 v = sAsk w 20 v 0) ∧ ∀ o, o ≠ 16 → o ≠ 41 → o ≠ 40 → M' o = M o := by
  have hn10 := hok.1.1
  have h48 := hok.1.2.1
  have h11 : M 1 11 = znn n := hf.1.1.1.trans h48
  obtain ⟨r, h1, h2, h3⟩ := zloop (fun f (m : ZI) c => f26_l2 1 a f c m) n (fun i m => (∀ v, v < i → m 40 v = sAsk w 20 v 0) ∧ ∀ o, o ≠ 16 → o ≠ 41 → o ≠ 40 → m o = M o)
    (fun m : ZI => (∀ v, v < n → m 40 v = sAsk w 20 v 0) ∧ ∀ o, o ≠ 16 → o ≠ 41 → o ≠ 40 → m o = M o) (fun f i m hi hm1 => by
      obtain ⟨hv, g⟩ := hm1
      left
      have hfm : fixIs m 1 w n k c b := fixIs_of hf (fun o h => g o (by omega) (by omega) (by omega))
      have hmm : momIs m a w n := momIs_of hm (fun o h1 h2 => g o (by omega) (by omega) (by omega))
      obtain ⟨M1, b1, b2⟩ := asks_cls (u := 0) (W := 256) (W' := 20) ha hi (by decide) (Or.inl ⟨rfl, rfl⟩) hfm hok hmm hmo
      simp only [f26_l2]
      rw [g 1 (by decide) (by decide) (by decide), h11, if_pos ((zn_lt (by omega) (by omega)).mpr hi), show (0 : Int32) = znn 0 from rfl, b1]
      simp only [Option.bind_some, zlet]
      rw [if_pos ((zn_zin (by omega)).mpr (by omega)), zn_zi (by omega), zadd1]
      refine ⟨zs M1 (1 + 39) i (sAsk w 20 i 0), ⟨fun v hv1 => ?_, fun o h1 h2 h3 => ?_⟩, rfl⟩
      · rw [zs_ap, if_pos (by decide), upd_ap]
        by_cases h : v = i
        · rw [if_pos h, h]
        · rw [if_neg h, show (1 : Nat) + 39 = 40 from rfl, b2 40 (by decide) (by decide)]
          exact hv v (by omega)
      · rw [zs_ap, if_neg (by omega), b2 o h1 h2]
        exact g o h1 h2 h3) (fun f m hm1 => by
      obtain ⟨hv, g⟩ := hm1
      refine ⟨m, ⟨hv, g⟩, ?_⟩
      simp only [f26_l2]
      rw [g 1 (by decide) (by decide) (by decide), h11, if_neg (by rw [zn_lt (by omega) (by omega)]; omega)]) zfu 0 M (by omega) (by rw [zfu_eq]; omega) ⟨fun v h => by omega, fun _ _ _ _ => rfl⟩
  refine ⟨r, ?_, h2, h3⟩
  have h1 : f26_l2 1 a zfu 0 M = some r := h1
  rw [f26_weigh, h1]
  rfl
/-- as the class weighs: voter names other, all else name as they did -/
def sVo (w : Nat → Int32) (voter other : Int32) (v : Nat) : Int32 := if znn v = voter then other else w (80 + v)
theorem elect_cls {M : ZI} {w : Nat → Int32} {n k c b Y : Nat} {voter other : Int32} (hf : fixIs M 1 w n k c b) (hok : fixOk w n k c b) (hmo : momOk w n Y) (h40 : ∀ v, v < n → M 40 v = sAsk w 20 v 0) :
    ∃ M', f36_elect 1 voter other M = some (optI (sGiv w (sVo w voter other) n n), M') ∧ ∀ o, o ≠ 33 → M' o = M o := by
  have hn10 := hok.1.1
  have h48 := hok.1.2.1
  have hru := hok.2.2.2.1
  have h11 : M 1 11 = znn n := hf.1.1.1.trans h48
  have h36 : ∀ p, p < n → M 37 p = w (60 + p) := fun p hp => (hf.1.2 p hp).1
  have h38 : ∀ p, p < n → M 39 p = w (80 + p) := fun p hp => (hf.1.2 p hp).2.2
  generalize hvo : sVo w voter other = vo
  have inner : ∀ (M1 : ZI) (p : Nat), (∀ o, o ≠ 33 → M1 o = M o) → f36_l26 1 voter other (znn p) M1 zfu 0 0 0 = some (znn (sSum w vo p n), znn (sNam vo p n)) := by
    intro M1 p g
    obtain ⟨r, h1, h2⟩ := zloop (fun f (a : Int32 × Int32) c => f36_l26 1 voter other (znn p) M1 f a.1 a.2 c) n (fun i a => a = (znn (sSum w vo p i), znn (sNam vo p i))) (fun r => r = (znn (sSum w vo p n), znn (sNam vo p n))) (fun f i a hi ha => by
        subst ha
        left
        refine ⟨_, rfl, ?_⟩
        have hz : zin (znn i) 10 = true := (zn_zin (by omega)).mpr (by omega)
        simp only [f36_l26]
        rw [g 1 (by decide), h11, if_pos ((zn_lt (by omega) (by omega)).mpr hi), if_pos hz, zn_zi (by omega), zadd1]
        simp only [Nat.reduceAdd]
        rw [g 39 (by decide), g 40 (by decide), h38 i hi, h40 i hi]
        have hv : ((if znn i = voter then some other else some (w (80 + i))) : Option Int32) = some (vo i) := by
          rw [← hvo, sVo]
          split <;> rfl
        rw [hv]
        simp only [Option.bind_some]
        obtain ⟨q, hq, e1, e2⟩ := ask20 w i
        by_cases h : vo i = znn p
        · rw [if_pos h, if_pos hz]
          simp only [zlet, sSum, sNam, if_pos h]
          rw [e1, zn_zi (by omega), zn_add, zl1, zn_shl (by omega), zn_or]
        · rw [if_neg h]
          simp only [sSum, sNam, if_neg h, Nat.add_zero]) (fun f a ha => by
        subst ha
        refine ⟨_, rfl, ?_⟩
        simp only [f36_l26]
        rw [g 1 (by decide), h11, if_neg (by rw [zn_lt (by omega) (by omega)]; omega)]) zfu 0 (0, 0) (by omega) (by rw [zfu_eq]; omega) rfl
    rw [← h2]
    exact h1
  obtain ⟨r, h1, h2, h3⟩ := zloop (fun f (a : Int32 × Int32 × ZI) c => f36_l8 1 voter other f a.1 a.2.1 c a.2.2) n (fun i a => a.1 = optI (sGiv w vo n i) ∧ a.2.1 = znn (match sGiv w vo n i with | some q => sSum w vo q n | none => 0) ∧ ∀ o, o ≠ 33 → a.2.2 o = M o)
    (fun r : Int32 × ZI => r.1 = optI (sGiv w vo n n) ∧ ∀ o, o ≠ 33 → r.2 o = M o) (fun f i a hi ha => by
      obtain ⟨a1, a2, a3⟩ := a
      obtain ⟨h1, h2, g⟩ := ha
      simp only at h1 h2 g
      subst h1
      subst h2
      left
      dsimp only
      rw [f36_l8]
      rw [g 1 (by decide), h11, if_pos ((zn_lt (by omega) (by omega)).mpr hi), inner a3 i g, zadd1]
      simp only [Option.bind_some]
      rw [show (1 + 36 : Nat) = 37 from rfl, show (1 + 28 : Nat) = 29 from rfl]
      have l1 := sSum_le w vo i n
      obtain ⟨M2, c1, c2⟩ := met_eq (M := a3) (sNam_1024 vo i n hn10) hru (by
        have := hf.2.2.2.1
        simp only [ruleIs, Nat.reduceAdd] at this ⊢
        rw [g 29 (by decide), g 30 (by decide), g 31 (by decide), g 32 (by decide)]
        exact this)
      have g2 : ∀ o, o ≠ 33 → M2 o = M o := fun o h1 => (c2 o h1).trans (g o h1)
      rw [c1]
      simp only [Option.bind_some]
      have hz : zin (znn i) 10 = true := (zn_zin (by omega)).mpr (by omega)
      rw [if_pos hz, zn_zi (show i < 2147483648 by omega), g 37 (by decide), h36 i hi]
      have key : ∃ bet : Bool, (bet = true ↔ (0 < sSum w vo i n ∧ sBef w vo n i (sGiv w vo n i) = true)) ∧ ((if znn (match sGiv w vo n i with | some q => sSum w vo q n | none => 0) < znn (sSum w vo i n) then some (1 : Int32) else if optI (sGiv w vo n i) = -1 then some 0 else if znn (sSum w vo i n) = znn (match sGiv w vo n i with | some q => sSum w vo q n | none => 0) then if zin (optI (sGiv w vo n i)) 10 = true then if M 37 (zi (optI (sGiv w vo n i))) < w (60 + i) then some 1 else some 0 else none else some 0) : Option Int32) = some (if bet = true then 1 else 0) := by
        cases hg : sGiv w vo n i with
        | none =>
          refine ⟨decide (0 < sSum w vo i n), by simp [sBef], ?_⟩
          simp only
          by_cases h : 0 < sSum w vo i n
          · rw [if_pos ((zn_lt (by decide) (by omega)).mpr h)]
            simp [h]
          · rw [if_neg (by rw [zn_lt (by decide) (by omega)]; exact h), if_pos optI_none]
            simp [h]
        | some q =>
          obtain ⟨hq1, hq2⟩ := sGiv_lt w vo n i q hg
          have l2 := sSum_le w vo q n
          have eq : optI (some q) = znn q := rfl
          refine ⟨sBef w vo n i (some q), ?_, ?_⟩
          · simp only [sBef, Bool.or_eq_true, decide_eq_true_eq, Bool.and_eq_true]
            constructor
            · intro h
              exact ⟨by rcases h with h | h <;> omega, h⟩
            · exact fun h => h.2
          · have hbe : sBef w vo n i (some q) = (decide (sSum w vo q n < sSum w vo i n) || (decide (sSum w vo i n = sSum w vo q n) && decide (w (60 + q) < w (60 + i)))) := rfl
            rw [hbe, eq]
            simp only
            by_cases h : sSum w vo q n < sSum w vo i n
            · rw [if_pos ((zn_lt (by omega) (by omega)).mpr h)]
              simp [h]
            · rw [if_neg (by rw [zn_lt (by omega) (by omega)]; exact h), if_neg (zn_ne_neg (by omega))]
              by_cases h2 : sSum w vo i n = sSum w vo q n
              · rw [if_pos (by rw [h2]), if_pos ((zn_zin (by omega)).mpr (by omega)), zn_zi (by omega), h36 q (by omega)]
                by_cases h3 : w (60 + q) < w (60 + i)
                · simp [h2, h3]
                · simp [h2, h3]
              · rw [if_neg (by rw [zn_eq (by omega) (by omega)]; exact h2)]
                simp [h, h2]
      obtain ⟨bet, hbet, hke⟩ := key
      rw [hke]
      simp only [Option.bind_some]
      have hgi : sGiv w vo n (i + 1) = if 0 < sSum w vo i n ∧ sSat w (sNam vo i n) = 1 ∧ sBef w vo n i (sGiv w vo n i) = true then some i else sGiv w vo n i := rfl
      cases hb : bet with
      | false =>
        have hno : sGiv w vo n (i + 1) = sGiv w vo n i := by
          rw [hgi, if_neg (fun h => by
            have := hbet.mpr ⟨h.1, h.2.2⟩
            rw [hb] at this
            cases this)]
        refine ⟨(_, _, a3), ⟨rfl, rfl, g⟩, ?_⟩
        simp only
        rw [hno]
        rfl
      | true =>
        have hyes := hbet.mp hb
        rcases sSat_01 hru (sNam_1024 vo i n hn10) with h2 | h2
        · have hno : sGiv w vo n (i + 1) = sGiv w vo n i := by
            rw [hgi, if_neg (fun h => by rw [h2] at h; exact absurd h.2.1 (by decide))]
          refine ⟨(_, _, M2), ⟨rfl, rfl, g2⟩, ?_⟩
          simp only
          rw [hno, h2]
          rfl
        · have hno : sGiv w vo n (i + 1) = some i := by
            rw [hgi, if_pos ⟨hyes.1, h2, hyes.2⟩]
          refine ⟨(_, _, M2), ⟨rfl, rfl, g2⟩, ?_⟩
          simp only
          rw [hno, h2]
          rfl) (fun f a ha => by
      obtain ⟨a1, a2, a3⟩ := a
      obtain ⟨h1, h2, g⟩ := ha
      simp only at h1 h2 g
      subst h1
      refine ⟨(optI (sGiv w vo n n), a3), ⟨rfl, g⟩, ?_⟩
      simp only [f36_l8]
      rw [g 1 (by decide), h11, if_neg (by rw [zn_lt (by omega) (by omega)]; omega)]) zfu 0 (-1, 0, M) (by omega) (by rw [zfu_eq]; omega) ⟨rfl, rfl, fun _ _ => rfl⟩
  obtain ⟨r1, r2⟩ := r
  refine ⟨r2, ?_, h3⟩
  have h1 : f36_l8 1 voter other zfu (-1) 0 0 M = some (r1, r2) := h1
  rw [f36_elect, h1]
  simp only at h2
  rw [h2]
  rfl
