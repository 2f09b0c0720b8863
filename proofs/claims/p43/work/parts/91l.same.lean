-- ===== a LAND and the class are the same, as long as the class and the reference go together =====
theorem rowQ {M : ZI} {q p i : Nat} {w : Nat → Int32} (h : lndQ M q w p) (hi : i < 7) : M q i = w ((if i = 0 then 17 else if i = 1 then 60 else if i = 2 then 70 else if i = 3 then 27 else if i = 4 then 37 else if i = 5 then 80 else 7) + p) := by
  obtain ⟨q0, q1, q2, q3, q4, q5, q6⟩ := h
  have hi7 : i = 0 ∨ i = 1 ∨ i = 2 ∨ i = 3 ∨ i = 4 ∨ i = 5 ∨ i = 6 := by omega
  rcases hi7 with rfl | rfl | rfl | rfl | rfl | rfl | rfl
  · exact q0
  · exact q1
  · exact q2
  · exact q3
  · exact q4
  · exact q5
  · exact q6
theorem same_l12 {Post : Option (Int32 × ZH) → Prop} {M0 B0 M : ZI} {R : ZF} {L : ZY} {t b n k c bd p : Nat} (h : landIs M0 R L t b (B0 149) n k) (hL : L.length ≤ 800000) (hz : zgood R L = true) (hok : fixOk (B0 149) n k c bd) (hmo : momOk (B0 149) n 999) (hp : p < n) {k13 : ZI → Option (Int32 × ZH)} (hk : ∀ M, SQ M0 B0 M → Post (k13 M)) (hM : SQ M0 B0 M) : Post (g113_l12 t R L (znn p) k13 zfu 0 M) := by
  have hn : n ≤ 10 := hok.1.1
  obtain ⟨⟨o1, o2, o3, o4, o5, o6⟩, -, ⟨hb, hP⟩, -⟩ := id h
  obtain ⟨p1, p2, p3⟩ := hP p hp
  refine kloop (fun f c a => g113_l12 t R L (znn p) k13 f c a) 7 1 (by decide) (SQ M0 B0) Post (fun f i a hi ha => ?_) (fun f i a h1 h2 ha => ?_) zfu 0 M (by decide) (by rw [zfu_eq]; decide) hM
  · have hQ : ∃ M', f92_of (znn p) (znn i) a = some (M0 (b + p) i, M') ∧ SQ M0 B0 M' := by
      obtain ⟨M', a1, a2⟩ := ask_m (sync_of (znn p) (znn i)) (v := M0 (b + p) i) ha (fun B hB => ⟨B, by rw [of_r (B := B) (by rw [hB 149 (by decide) (by decide)]; exact hok) (by rw [hB 149 (by decide) (by decide)]; exact hmo) hp hi, hB 149 (by decide) (by decide), rowQ p3 hi], bSame_refl B⟩)
      exact ⟨M', a1, a2⟩
    obtain ⟨M', a1, a2⟩ := hQ
    have e1 : M' (b + p) i = M0 (b + p) i := by
      obtain ⟨B, -, -, h3⟩ := a2
      rw [h3 _ (by omega)]
    have gp : gar L (t + 1) 51 (znn p) = true := gar10 o2 (by omega) (by omega)
    have gi : gar L (b + p) 0 (znn i) = true := gar7 p2 (by omega) hi
    have zp : zi (znn p) = p := zn_zi (by omega)
    have zii : zi (znn i) = i := zn_zi (by omega)
    refine ⟨M', a2, ?_⟩
    simp only [g113_l12]
    rw [if_pos (show znn i < 7 by rw [zl7, zn_lt (by omega) (by omega)]; exact hi), if_pos hz, a1]
    simp only [Option.bind_some]
    rw [if_pos (gob_of o1 (lay_lt o1 (by omega))), o4]
    simp only [Option.bind_some, gp, zp, p1, gi, zii, e1, if_true]
    rw [zadd1]
  · have hi : i = 7 := by omega
    subst hi
    simp only [g113_l12]
    rw [if_neg (by decide)]
    exact hk a ha
theorem same_l91 {Post : Option (Int32 × ZH) → Prop} {M0 B0 M : ZI} {R : ZF} {L : ZY} {t b n k c bd p u0 : Nat} (h : landIs M0 R L t b (B0 149) n k) (hL : L.length ≤ 800000) (hz : zgood R L = true) (hok : fixOk (B0 149) n k c bd) (hmo : momOk (B0 149) n 999) (hp : p < n) (hu : u0 < 3) {k39 : ZI → Option (Int32 × ZH)} (hk : ∀ M, SQ M0 B0 M → Post (k39 M)) (hM : SQ M0 B0 M) : Post (g113_l91 t R L (znn p) k39 zfu (znn u0) M) := by
  have hn : n ≤ 10 := hok.1.1
  obtain ⟨⟨o1, o2, o3, o4, o5, o6⟩, -⟩ := id h
  obtain ⟨ss, hss, hst, -⟩ := (hmo.2.2.2.2 p hp).2
  refine kloop (fun f c a => g113_l91 t R L (znn p) k39 f c a) 25 4 (by decide) (SQ M0 B0) Post (fun f i a hi ha => ?_) (fun f i a h1 h2 ha => ?_) zfu u0 M (by omega) (by rw [zfu_eq]; omega) hM
  · obtain ⟨M1, a1, a2⟩ := ask_m (sync_after (znn p) (znn i) 0) (v := sAsk (B0 149) 21 p i) ha (fun B hB => by
      obtain ⟨B', b1, b2⟩ := after_r (B := B) (u := i) (by rw [hB 149 (by decide) (by decide)]; exact hok) (by rw [hB 149 (by decide) (by decide)]; exact hmo) hp (by omega)
      rw [hB 149 (by decide) (by decide)] at b1
      exact ⟨B', b1, b2⟩)
    obtain ⟨M2, c1, c2⟩ := ask_m (sync_after (znn p) (znn i) 1) (v := sAsk (B0 149) 22 p i) a2 (fun B hB => by
      obtain ⟨B', b1, b2⟩ := after_r1 (B := B) (u := i) (by rw [hB 149 (by decide) (by decide)]; exact hok) (by rw [hB 149 (by decide) (by decide)]; exact hmo) hp (by omega)
      rw [hB 149 (by decide) (by decide)] at b1
      exact ⟨B', b1, b2⟩)
    have f1 : landIs M1 R L t b (B0 149) n k := landIs_cls h (by obtain ⟨B, -, -, h3⟩ := a2; exact h3) hz
    have f2 : landIs M2 R L t b (B0 149) n k := landIs_cls h (by obtain ⟨B, -, -, h3⟩ := c2; exact h3) hz
    refine ⟨M2, c2, ?_⟩
    simp only [g113_l91]
    rw [if_pos (show znn i < 25 by rw [zl25, zn_lt (by omega) (by omega)]; exact hi), if_pos hz, a1]
    simp only [Option.bind_some]
    rw [if_pos (gob_of o1 (lay_lt o1 (by omega))), land_wear (Y := 999) f1 (by omega) hn hp (by omega) (by decide) hmo ⟨ss, hss, hst⟩ hz]
    simp only [Option.bind_some, if_true]
    rw [c1]
    simp only [Option.bind_some]
    rw [land_notice (Y := 999) f2 (by omega) hn hp (by omega) (by decide) hmo]
    simp only [Option.bind_some, if_true]
    rw [show znn i + 4 = znn (i + 4) from zn_add i 4]
  · simp only [g113_l91]
    rw [if_neg (show ¬ znn i < 25 by rw [zl25, zn_lt (by omega) (by omega)]; omega)]
    exact hk a ha
theorem same_l2 {Post : Option (Int32 × ZH) → Prop} {M0 B0 M : ZI} {R : ZF} {L : ZY} {t b n k c bd : Nat} (h : landIs M0 R L t b (B0 149) n k) (hL : L.length ≤ 800000) (hz : zgood R L = true) (hok : fixOk (B0 149) n k c bd) (hmo : momOk (B0 149) n 999) {k7 : ZI → Option (Int32 × ZH)} (hk : ∀ M, SQ M0 B0 M → Post (k7 M)) (hM : SQ M0 B0 M) : Post (g113_l2 t R L k7 zfu 0 M) := by
  have hn : n ≤ 10 := hok.1.1
  have h48 : B0 149 48 = znn n := hok.1.2.1
  obtain ⟨⟨o1, o2, o3, o4, o5, o6⟩, ⟨f0, f1, f2, f3, f4, f5, f6, f7, f8, f9⟩, ⟨hb, hP⟩, -⟩ := id h
  have go : gob L t 10 = true := gob_of o1 (lay_lt o1 (by omega))
  have main : ∀ (fuel i : Nat) (M : ZI), i ≤ n → n - i < fuel → SQ M0 B0 M → Post (g113_l2 t R L k7 fuel (znn i) M) := by
    intro fuel
    induction fuel with
    | zero => intro i M _ hh _; omega
    | succ f ih =>
      intro i M hi hf hM
      have e7 : M t 7 = znn n := by
        obtain ⟨B, -, -, h3⟩ := hM
        rw [h3 t o6, f7]
        exact h48
      simp only [g113_l2]
      rw [if_pos go, e7]
      by_cases hlt : i < n
      · rw [if_pos ((zn_lt (by omega) (by omega)).mpr hlt)]
        refine same_l12 h hL hz hok hmo hlt (fun M1 h1 => ?_) hM
        obtain ⟨M2, a1, a2⟩ := ask_m (sync_of (znn i) 7) (v := sAsk (B0 149) 20 i 0) h1 (fun B hB => by
          obtain ⟨B', b1, b2⟩ := of_r7 (B := B) (p := i) (by rw [hB 149 (by decide) (by decide)]; exact hok) (by rw [hB 149 (by decide) (by decide)]; exact hmo) hlt
          rw [hB 149 (by decide) (by decide)] at b1
          exact ⟨B', b1, b2⟩)
        have g2 : landIs M2 R L t b (B0 149) n k := landIs_cls h (by obtain ⟨B, -, -, h3⟩ := a2; exact h3) hz
        obtain ⟨M3, c1, c2⟩ := ask_m (sync_of (znn i) 8) (v := znn (sSum (B0 149) (fun v => B0 149 (80 + v)) i n)) a2 (fun B hB => by
          obtain ⟨B', b1, b2⟩ := of_r8 (B := B) (p := i) (by rw [hB 149 (by decide) (by decide)]; exact hok) (by rw [hB 149 (by decide) (by decide)]; exact hmo) hlt
          rw [hB 149 (by decide) (by decide)] at b1
          exact ⟨B', b1, b2⟩)
        have g3 : landIs M3 R L t b (B0 149) n k := landIs_cls h (by obtain ⟨B, -, -, h3⟩ := c2; exact h3) hz
        obtain ⟨M4, d1, d2⟩ := ask_m (sync_of (znn i) 9) (v := -2) c2 (fun B hB => ⟨B, of_r9 (B := B) (p := i) (by rw [hB 149 (by decide) (by decide)]; exact hok) (by rw [hB 149 (by decide) (by decide)]; exact hmo) hlt, bSame_refl B⟩)
        rw [if_pos hz, a1]
        simp only [Option.bind_some]
        rw [if_pos go, land_weight (Y := 999) g2 (by omega) hn hlt (by decide) hmo]
        simp only [Option.bind_some, if_true]
        rw [c1]
        simp only [Option.bind_some]
        rw [land_sum (Y := 999) g3 (by omega) hn h48 (by decide) hmo]
        simp only [Option.bind_some, if_true]
        rw [d1]
        simp only [Option.bind_some, if_true, zlet]
        have hrem : zrem (znn i) 3 = znn (i % 3) := by
          have : ∀ q : Fin 10, zrem (znn q.val) 3 = znn (q.val % 3) := by decide
          exact this ⟨i, by omega⟩
        rw [hrem]
        refine same_l91 h hL hz hok hmo hlt (Nat.mod_lt _ (by decide)) (fun M5 h5 => ?_) d2
        rw [zadd1]
        exact ih (i + 1) M5 (by omega) (by omega) h5
      · rw [if_neg (by rw [zn_lt (by omega) (by omega)]; exact hlt)]
        exact hk M hM
  exact main zfu 0 M (by omega) (by rw [zfu_eq]; omega) hM
