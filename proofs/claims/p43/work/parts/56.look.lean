-- ===== look, end, feed =====
theorem voices_eq {A : ZI} {t : Nat} {w : Nat → Int32} {n : Nat} (hp : pplIs A t w n) (h48 : w 48 = znn n) (hn10 : n ≤ 10) : f84_voices t A = some (znn (voiceN w n)) := by
  obtain ⟨⟨h11, -⟩, h2⟩ := hp
  obtain ⟨r, g1, rfl⟩ := zloop (fun f (a : Int32) c => f84_l4 t A f a c) n (fun i a => a = znn (voiceN w i)) (fun a => a = znn (voiceN w n)) (fun f i a hi ha => by
    subst ha
    left
    (try dsimp only)
    rw [f84_l4, h11, h48, if_pos ((zn_lt (by omega) (by omega)).mpr hi), if_pos ((zn_zin (by omega)).mpr (by omega)), zn_zi (by omega), (h2 i hi).2.2, zadd1]
    have e : voiceN w (i + 1) = voiceN w i + (if w (80 + i) = -1 then 0 else 1) := rfl
    simp only [zlet_e]
    by_cases hc : w (80 + i) = -1
    · rw [if_pos hc]
      refine ⟨znn (voiceN w i), by rw [e, if_pos hc]; rfl, ?_⟩
      rw [show znn (voiceN w i) + 0 = znn (voiceN w i) by rw [zl0, zn_add]; rfl]
    · rw [if_neg hc]
      refine ⟨znn (voiceN w i + 1), by rw [e, if_neg hc], ?_⟩
      rw [zadd1]) (fun f a ha => by
    have hng : ¬ znn n < znn n := by rw [zn_lt (by omega) (by omega)]; omega
    refine ⟨a, ha, ?_⟩
    (try dsimp only)
    rw [f84_l4, h11, h48, if_neg hng]) zfu 0 0 (by omega) (by rw [zfu_eq]; omega) rfl
  have g1 : f84_l4 t A zfu 0 0 = some (znn (voiceN w n)) := g1
  unfold f84_voices
  rw [g1]
  rfl
theorem look_case {x : Int32} {A B : ZI} (hI : Inv2 A B) {v v' : Int32} (e1 : f143_look x A = some (v, A)) (e2 : f266_look x B = some (v', B)) (hv : v = v') : ∃ v A' B', f143_look x A = some (v, A') ∧ f266_look x B = some (v, B') ∧ Inv2 A' B' ∧ (∀ o, 148 ≤ o → A' o = A o) ∧ ∀ o, o < 148 → B' o = B o := by
  subst hv
  exact sync_same hI e1 e2
theorem sync_look (x : Int32) : sync (f143_look x) (f266_look x) := by
  rintro A B ⟨n, k, c, b, h0, h6, h7, h8⟩
  have hI : Inv2 A B := ⟨n, k, c, b, h0, h6, h7, h8⟩
  obtain ⟨h1, h2, h3, h4, h5⟩ := id h0
  have hn10 := h2.1.1
  have h48 := h2.1.2.1
  obtain ⟨⟨p1, p2, p3, p4, p5⟩, -⟩ := h1.1
  obtain ⟨m1, m2, m3, m4, m5, m6, m7⟩ := h3.1
  have d : ∀ i j : Int32, i ≠ j → ¬ i = j := fun _ _ h => h
  by_cases x0 : x = 0
  · subst x0; exact look_case hI rfl rfl p1
  by_cases x1 : x = 1
  · subst x1; exact look_case hI rfl rfl m2
  by_cases x2 : x = 2
  · subst x2; exact look_case hI rfl rfl m1
  by_cases x3 : x = 3
  · subst x3; exact look_case hI rfl rfl p2
  by_cases x4 : x = 4
  · subst x4; exact look_case hI rfl rfl p3
  by_cases x5 : x = 5
  · subst x5; exact look_case hI rfl rfl m3
  by_cases x6 : x = 6
  · subst x6; exact look_case hI rfl rfl m4
  by_cases x7 : x = 7
  · subst x7; exact look_case hI rfl rfl m7
  by_cases x8 : x = 8
  · subst x8; exact look_case hI rfl rfl m6
  by_cases x9 : x = 9
  · subst x9; exact look_case hI rfl rfl h1.2.1.1
  by_cases x10 : x = 10
  · subst x10
    have hv : f84_voices 1 A = some (B 149 51) := by rw [voices_eq h1.1 h48 hn10, h2.1.2.2.2.2.2.2.1]
    refine look_case hI (v := B 149 51) ?_ rfl rfl
    have e : f143_look 10 A = ((f84_voices 1 A).bind fun v1 => some (v1, A)).bind fun (v1, M2) => some (v1, M2) := rfl
    rw [e, hv]
    rfl
  by_cases x11 : x = 11
  · subst x11; exact look_case hI rfl rfl h1.2.2.1.1
  by_cases x12 : x = 12
  · subst x12; exact look_case hI rfl rfl h1.2.2.2.1.1
  by_cases x13 : x = 13
  · subst x13; exact look_case hI rfl rfl h1.2.2.2.2.1
  by_cases x14 : x = 14
  · subst x14
    obtain ⟨o, m, -, -, -, q1, q2, -⟩ := h6
    exact look_case hI rfl rfl (q1.trans q2.symm)
  by_cases x15 : x = 15
  · subst x15
    obtain ⟨A1, a1, a2, a3⟩ := weigh_cls (Or.inl rfl) h1 h2 h3 h4
    obtain ⟨A2, b1, b2⟩ := elect_cls (voter := -1) (other := -1) (fixIs_of h1 (fun o ho => a3 o (by omega) (by omega) (by omega))) h2 h4 a2
    obtain ⟨B2, c1, c2⟩ := giv_ref (M := B) rfl (ask_of h2) h4
    rw [gNow_vo hn10] at b1
    have e : f143_look 15 A = ((f26_weigh 1 2 A).bind fun M2 => (f36_elect 1 (-1 : Int32) (-1 : Int32) M2).bind fun (v3, M4) => some (v3, M4)).bind fun (v1, M2) => some (v1, M2) := rfl
    have e2 : f266_look 15 B = (f205_givenNow B).bind fun (v1, M2) => some (v1, M2) := rfl
    refine ⟨optI (gNow (B 149) n), A2, B2, ?_, ?_, Inv2_scr hI (scrA_of (fun o q1 q2 q3 q4 _ _ _ => (b2 o q2).trans (a3 o q1 q4 q3))) (scrB_of (fun o _ q2 q3 _ => c2 o q2 q3)), fun o ho => (b2 o (by omega)).trans (a3 o (by omega) (by omega) (by omega)), fun o ho => c2 o (by omega) (by omega)⟩
    · rw [e, a1]
      simp only [Option.bind_some]
      rw [b1]
      rfl
    · rw [e2, c1]
      rfl
  by_cases x16 : x = 16
  · subst x16; exact look_case hI rfl rfl p4
  by_cases x17 : x = 17
  · subst x17; exact look_case hI rfl rfl p5
  refine look_case hI (v := -1) (v' := -1) ?_ ?_ rfl
  · unfold f143_look f144_lookFurther
    rw [if_neg x0, if_neg x1, if_neg x2, if_neg x3, if_neg x4, if_neg x5, if_neg x6, if_neg x7, if_neg x8, if_neg x9, if_neg x10, if_neg x11, if_neg x12, if_neg x13, if_neg x14, if_neg x15, if_neg x16, if_neg x17]
    rfl
  · unfold f266_look
    rw [if_neg x0, if_neg x1, if_neg x2, if_neg x3, if_neg x4, if_neg x5, if_neg x6, if_neg x7, if_neg x8, if_neg x9, if_neg x10, if_neg x11, if_neg x12, if_neg x13, if_neg x14, if_neg x15, if_neg x16, if_neg x17]
def tapN (A B : ZI) (t : Nat) : Prop := t ≤ 400 ∧ A 119 1 = znn t ∧ B 148 19 = znn t ∧ ∀ i, i < t → A 120 i = B 158 i ∧ ∃ x, x < 256 ∧ A 120 i = znn x
def tapK (A A' B B' : ZI) : Prop := (∀ o, o ≠ 119 → o ≠ 120 → A' o = A o) ∧ (∀ j, j ≠ 1 → A' 119 j = A 119 j) ∧ (∀ o, o ≠ 148 → o ≠ 158 → B' o = B o) ∧ ∀ j, j ≠ 19 → B' 148 j = B 148 j
theorem tapK_refl (A B : ZI) : tapK A A B B := ⟨fun _ _ _ => rfl, fun _ _ => rfl, fun _ _ _ => rfl, fun _ _ => rfl⟩
theorem tapK_trans {A A1 A2 B B1 B2 : ZI} (h : tapK A A1 B B1) (g : tapK A1 A2 B1 B2) : tapK A A2 B B2 := ⟨fun o q1 q2 => (g.1 o q1 q2).trans (h.1 o q1 q2), fun j q => (g.2.1 j q).trans (h.2.1 j q), fun o q1 q2 => (g.2.2.1 o q1 q2).trans (h.2.2.1 o q1 q2), fun j q => (g.2.2.2 j q).trans (h.2.2.2 j q)⟩
theorem Inv2_tape {A A' B B' : ZI} (h : Inv2 A B) {t : Nat} (ht : tapN A' B' t) (hk : tapK A A' B B') : Inv2 A' B' := by
  obtain ⟨n, k, c, b, ⟨h1, h2, h3, h4, h5⟩, h6, h7, h8⟩ := h
  obtain ⟨ka, kb, kc, kd⟩ := hk
  obtain ⟨t1, t2, t3, t4⟩ := ht
  obtain ⟨t', -, -, -, -, g10, g11⟩ := h8
  have e149 : B' 149 = B 149 := kc 149 (by decide) (by decide)
  refine ⟨n, k, c, b, ?_, pastIs_of h6 ⟨by rw [ka 0 (by decide) (by decide)], by rw [ka 0 (by decide) (by decide)], fun o q1 q2 => ka o (by omega) (by omega)⟩ ⟨kd 4 (by decide), kc 151 (by decide) (by decide)⟩, imgIs_of h7 ⟨by rw [ka 0 (by decide) (by decide)], fun o q1 q2 => ka o (by omega) (by omega)⟩ ⟨kd 5 (by decide), kc 150 (by decide) (by decide)⟩, ⟨t, t1, t2, t3, t4, by rw [kb 10 (by decide), kd 26 (by decide)]; exact g10, by rw [kb 11 (by decide), kd 28 (by decide)]; exact g11⟩⟩
  unfold Inv5
  rw [e149]
  exact ⟨fixIs_of h1 (fun o ho => ka o (by omega) (by omega)), h2, momIs_of h3 (fun o q1 q2 => ka o (by omega) (by omega)), h4, bookIs_of h5 (fun o q1 q2 => ka o (by omega) (by omega))⟩
theorem sync_end (x : Int32) : sync (f51_end x) (f155_end x) := by
  rintro A B hI
  obtain ⟨t, h1, h2, h3, h4, -⟩ : tapeIs A B := by
    obtain ⟨n, k, c, b, -, -, -, h8⟩ := hI
    exact h8
  rcases within_ex (x := x) (lo := 0) (hi := t) (by decide) (by omega) with ⟨u, -, hu, rfl, e1, e2⟩ | ⟨e1, e2⟩
  case inr => exact sync_same (v := 0) hI (by unfold f51_end; rw [h2, show f13_within x 0 (znn t) = some 0 from e1]; rfl) (by unfold f155_end; rw [h3, show f149_isIn x 0 (znn t) = some 0 from e2]; rfl)
  refine ⟨1, zs A 119 1 (znn u), zs B 148 19 (znn u), by unfold f51_end; rw [h2, show f13_within (znn u) 0 (znn t) = some 1 from e1]; rfl, by unfold f155_end; rw [h3, show f149_isIn (znn u) 0 (znn t) = some 1 from e2]; rfl, Inv2_tape hI (t := u) ⟨by omega, by rw [zs_sm]; rfl, by rw [zs_sm]; rfl, fun i hi => ?_⟩ ⟨fun o q1 _ => zs_df q1, fun j q => by rw [zs_sm, if_neg q], fun o q1 _ => zs_df q1, fun j q => by rw [zs_sm, if_neg q]⟩, fun o ho => zs_df (by omega), fun o ho => zs_df (by omega)⟩
  rw [zs_df (show (120 : Nat) ≠ 119 by decide), zs_df (show (158 : Nat) ≠ 148 by decide)]
  exact h4 i (by omega)
theorem znb (Y : BitVec 32) : (znn Y.toNat).toBitVec = Y := by
  show BitVec.ofNat 32 Y.toNat = Y
  rw [BitVec.ofNat_toNat, BitVec.setWidth_eq]
theorem b255' : ∀ i : Fin 32, (255#32)[i.val]'i.isLt = decide (i.val < 8) := by decide +kernel
theorem b255 {i : Nat} (hi : i < 32) : (255#32)[i] = decide (i < 8) := b255' ⟨i, hi⟩
theorem byte_j (a : Int32) (j : Nat) (hj : j = 0 ∨ j = 8 ∨ j = 16 ∨ j = 24) : ∃ x, x < 256 ∧ zushr a (znn j) &&& 255 = znn x ∧ zshr a (znn j) &&& 255 = znn x := by
  refine ⟨((a.toBitVec >>> j) &&& 255#32).toNat, ?_, ?_, ?_⟩
  · have : ((a.toBitVec >>> j) &&& 255#32).toNat ≤ 255 := by
      rw [BitVec.toNat_and]
      exact Nat.and_le_right
    omega
  · apply Int32.toBitVec_inj.mp
    rw [znb]
    rcases hj with rfl | rfl | rfl | rfl
    · simp [zushr, znn]
    · simp [zushr, znn]
    · simp [zushr, znn]
    · simp [zushr, znn]
  · have core : ∀ d, d = 0 ∨ d = 8 ∨ d = 16 ∨ d = 24 → a.toBitVec.sshiftRight d &&& 255#32 = (a.toBitVec >>> d) &&& 255#32 := by
      intro d hd
      ext i hi
      rw [BitVec.getElem_and, BitVec.getElem_and, b255 hi]
      by_cases h8 : i < 8
      · rw [BitVec.getElem_sshiftRight, dif_pos (by omega), BitVec.getElem_ushiftRight, BitVec.getLsbD_eq_getElem (by omega)]
      · rw [decide_eq_false h8, Bool.and_false, Bool.and_false]
    apply Int32.toBitVec_inj.mp
    rw [znb, ← core j hj]
    rcases hj with rfl | rfl | rfl | rfl
    · simp [zshr, znn]
    · simp [zshr, znn]
    · simp [zshr, znn]
    · simp [zshr, znn]
theorem tap_step {A B : ZI} {t x : Nat} (h : tapN A B t) (ht : t < 400) (hx : x < 256) : tapN (zs (zs A 120 t (znn x)) 119 1 (znn (t + 1))) (zs (zs B 158 t (znn x)) 148 19 (znn (t + 1))) (t + 1) ∧ tapK A (zs (zs A 120 t (znn x)) 119 1 (znn (t + 1))) B (zs (zs B 158 t (znn x)) 148 19 (znn (t + 1))) := by
  obtain ⟨h1, h2, h3, h4⟩ := h
  refine ⟨⟨by omega, by rw [zs_sm, if_pos rfl], by rw [zs_sm, if_pos rfl], fun i hi => ?_⟩, ⟨fun o q1 q2 => by rw [zs_df q1, zs_df q2], fun j q => by rw [zs_sm, if_neg q, zs_df (show (119 : Nat) ≠ 120 by decide)], fun o q1 q2 => by rw [zs_df q1, zs_df q2], fun j q => by rw [zs_sm, if_neg q, zs_df (show (148 : Nat) ≠ 158 by decide)]⟩⟩
  rw [zs_df (show (120 : Nat) ≠ 119 by decide), zs_df (show (158 : Nat) ≠ 148 by decide), zs_sm, zs_sm]
  by_cases hit : i = t
  · rw [if_pos hit, if_pos hit]
    exact ⟨rfl, x, hx, rfl⟩
  · rw [if_neg hit, if_neg hit]
    exact h4 i (by omega)
def sel (a1 a2 a3 a4 a5 x : Int32) : Option Int32 := if x < (4 : Int32) then some a1 else (if x < (8 : Int32) then some a2 else (if x < (12 : Int32) then some a3 else (if x < (16 : Int32) then some a4 else some a5)))
theorem place4 {i : Nat} (hi : i < 20) : (24 : Int32) - 8 * zrem (znn i) 4 = znn (24 - 8 * (i % 4)) ∧ znn i < 20 := by
  have : ∀ i : Fin 20, (24 : Int32) - 8 * zrem (znn i.val) 4 = znn (24 - 8 * (i.val % 4)) ∧ znn i.val < 20 := by decide +kernel
  exact this ⟨i, hi⟩
theorem feed1 {A B : ZI} {t i s : Nat} {a a1 a2 a3 a4 a5 : Int32} (h : tapN A B t) (ht : t < 400) (hi : i < 20) (hs : s = 24 - 8 * (i % 4)) (hsel : sel a1 a2 a3 a4 a5 (znn i) = some a) : ∃ A' B', (∀ m, f50_l3 119 a (m + 1) (znn s) A = f50_l3 119 a m (znn s + -8) A') ∧ (∀ m, f154_l18 a1 a2 a3 a4 a5 (m + 1) (znn i) B = f154_l18 a1 a2 a3 a4 a5 m (znn (i + 1)) B') ∧ tapN A' B' (t + 1) ∧ tapK A A' B B' := by
  have hm : i % 4 < 4 := Nat.mod_lt _ (by decide)
  obtain ⟨x, hx, e1, e2⟩ := byte_j a s (by omega)
  obtain ⟨q1, q2⟩ := tap_step h ht hx
  obtain ⟨h1, h2, h3, -⟩ := h
  have hz : zin (znn t) 400 = true := (zn_zin (by omega)).mpr ht
  have lt : znn t < 400 := by rw [zl400, zn_lt (by omega) (by decide)]; exact ht
  refine ⟨_, _, fun m => ?_, fun m => ?_, q1, q2⟩
  · rw [f50_l3, if_neg (zn_nneg (by omega)), h2, if_pos lt, if_pos hz, zn_zi (by omega), e1]
    simp only [zlet_e]
    rw [zs_df (show (119 : Nat) ≠ 119 + 1 by decide), h2, zadd1]
  · obtain ⟨p1, p2⟩ := place4 hi
    have hsel' : ((if znn i < (4 : Int32) then some a1 else (if znn i < (8 : Int32) then some a2 else (if znn i < (12 : Int32) then some a3 else (if znn i < (16 : Int32) then some a4 else some a5)))) : Option Int32) = some a := hsel
    rw [f154_l18, if_pos p2, hsel']
    simp only [Option.bind_some]
    rw [h3, if_pos hz, zn_zi (by omega), p1, ← hs, e2, zadd1]
    simp only [zlet_e]
    rw [zs_df (show (148 : Nat) ≠ 158 by decide), h3, zadd1]
theorem feed4 {A B : ZI} {t q : Nat} {a a1 a2 a3 a4 a5 : Int32} (h : tapN A B t) (ht : t + 4 ≤ 400) (hq : q < 5) (hsel : ∀ r, r < 4 → sel a1 a2 a3 a4 a5 (znn (4 * q + r)) = some a) : ∃ A' B', f50_append 119 a A = some A' ∧ (∀ m, f154_l18 a1 a2 a3 a4 a5 (m + 4) (znn (4 * q)) B = f154_l18 a1 a2 a3 a4 a5 m (znn (4 * q + 4)) B') ∧ tapN A' B' (t + 4) ∧ tapK A A' B B' := by
  obtain ⟨A1, B1, c1, d1, t1, k1⟩ := feed1 (s := 24) (i := 4 * q) h (by omega) (by omega) (by omega) (hsel 0 (by decide))
  obtain ⟨A2, B2, c2, d2, t2, k2⟩ := feed1 (s := 16) (i := 4 * q + 1) t1 (by omega) (by omega) (by omega) (hsel 1 (by decide))
  obtain ⟨A3, B3, c3, d3, t3, k3⟩ := feed1 (s := 8) (i := 4 * q + 2) t2 (by omega) (by omega) (by omega) (hsel 2 (by decide))
  obtain ⟨A4, B4, c4, d4, t4, k4⟩ := feed1 (s := 0) (i := 4 * q + 3) t3 (by omega) (by omega) (by omega) (hsel 3 (by decide))
  refine ⟨A4, B4, ?_, fun m => ?_, t4, tapK_trans (tapK_trans (tapK_trans k1 k2) k3) k4⟩
  · obtain ⟨m, hm⟩ : ∃ m, zfu = m + 1 + 1 + 1 + 1 + 1 := ⟨99995, rfl⟩
    unfold f50_append
    rw [hm]
    have e : f50_l3 119 a (m + 1 + 1 + 1 + 1 + 1) 24 A = some A4 := by
      rw [show (24 : Int32) = znn 24 from rfl, c1, show znn 24 + -8 = znn 16 from rfl, c2, show znn 16 + -8 = znn 8 from rfl, c3, show znn 8 + -8 = znn 0 from rfl, c4, f50_l3, if_pos (by decide)]
    rw [e]
    rfl
  · rw [show m + 4 = m + 1 + 1 + 1 + 1 from rfl, d1, d2, d3, d4]
theorem sync_feed (a1 a2 a3 a4 a5 : Int32) : sync (f48_feed a1 a2 a3 a4 a5) (f154_feed a1 a2 a3 a4 a5) := by
  rintro A B hI
  obtain ⟨t, h1, h2, h3, h4, -⟩ : tapeIs A B := by
    obtain ⟨n, k, c, b, -, -, -, h8⟩ := hI
    exact h8
  by_cases ht : 400 < t + 20
  · have hlt : (400 : Int32) < znn (t + 20) := by rw [zl400, zn_lt (by decide) (by omega)]; exact ht
    refine sync_same (v := -1) hI ?_ ?_
    · unfold f48_feed f49_hasRoom
      rw [h2, zl20, zn_add, if_pos hlt]
      rfl
    · unfold f154_feed
      rw [h3, zl20, zn_add, if_pos hlt]
  have hlt : ¬ (400 : Int32) < znn (t + 20) := by rw [zl400, zn_lt (by decide) (by omega)]; exact ht
  have s4 : ∀ q r, q < 5 → r < 4 → sel a1 a2 a3 a4 a5 (znn (4 * q + r)) = some (if q = 0 then a1 else if q = 1 then a2 else if q = 2 then a3 else if q = 3 then a4 else a5) := by
    intro q r hq hr
    have hq5 : q = 0 ∨ q = 1 ∨ q = 2 ∨ q = 3 ∨ q = 4 := by omega
    have hr4 : r = 0 ∨ r = 1 ∨ r = 2 ∨ r = 3 := by omega
    rcases hq5 with rfl | rfl | rfl | rfl | rfl <;> rcases hr4 with rfl | rfl | rfl | rfl <;> rfl
  obtain ⟨A1, B1, c1, d1, t1, k1⟩ := feed4 (q := 0) ⟨h1, h2, h3, h4⟩ (by omega) (by decide) (fun r hr => s4 0 r (by decide) hr)
  obtain ⟨A2, B2, c2, d2, t2, k2⟩ := feed4 (q := 1) t1 (by omega) (by decide) (fun r hr => s4 1 r (by decide) hr)
  obtain ⟨A3, B3, c3, d3, t3, k3⟩ := feed4 (q := 2) t2 (by omega) (by decide) (fun r hr => s4 2 r (by decide) hr)
  obtain ⟨A4, B4, c4, d4, t4, k4⟩ := feed4 (q := 3) t3 (by omega) (by decide) (fun r hr => s4 3 r (by decide) hr)
  obtain ⟨A5, B5, c5, d5, t5, k5⟩ := feed4 (q := 4) t4 (by omega) (by decide) (fun r hr => s4 4 r (by decide) hr)
  have kk : tapK A A5 B B5 := tapK_trans (tapK_trans (tapK_trans (tapK_trans k1 k2) k3) k4) k5
  refine ⟨znn (t + 20), A5, B5, ?_, ?_, Inv2_tape hI t5 kk, fun o ho => kk.1 o (by omega) (by omega), fun o ho => kk.2.2.1 o (by omega) (by omega)⟩
  · unfold f48_feed f49_hasRoom
    rw [h2, zl20, zn_add, if_neg hlt]
    simp only [Option.bind_some, if_neg h10]
    rw [show f50_append 119 a1 A = _ from c1]
    simp only [Option.bind_some]
    rw [show f50_append 119 a2 A1 = _ from c2]
    simp only [Option.bind_some]
    rw [show f50_append 119 a3 A2 = _ from c3]
    simp only [Option.bind_some]
    rw [show f50_append 119 a4 A3 = _ from c4]
    simp only [Option.bind_some]
    rw [show f50_append 119 a5 A4 = _ from c5]
    simp only [Option.bind_some]
    rw [t5.2.1]
  · have e : f154_l18 a1 a2 a3 a4 a5 zfu 0 B = some B5 := by
      obtain ⟨m, hm⟩ : ∃ m, zfu = m + 1 + 4 + 4 + 4 + 4 + 4 := ⟨99979, rfl⟩
      rw [hm, show (0 : Int32) = znn (4 * 0) from rfl, d1, show znn (4 * 0 + 4) = znn (4 * 1) from rfl, d2, show znn (4 * 1 + 4) = znn (4 * 2) from rfl, d3, show znn (4 * 2 + 4) = znn (4 * 3) from rfl, d4, show znn (4 * 3 + 4) = znn (4 * 4) from rfl, d5, f154_l18, if_neg (by decide)]
    unfold f154_feed
    rw [h3, zl20, zn_add, if_neg hlt, e]
    simp only [Option.bind_some]
    rw [t5.2.2.1]
