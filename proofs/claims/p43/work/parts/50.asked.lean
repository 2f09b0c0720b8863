-- ===== calls that ask: of, after, can, look =====
theorem sync_q2 {fC fR : ZI → Option (Int32 × ZI)} (h : ∀ A B n k c b, Inv5 A B n k c b → pastIs A B n → ∃ v A' B', fC A = some (v, A') ∧ fR B = some (v, B') ∧ scrA A A' ∧ scrB B B' ∧ (∀ o, 148 ≤ o → A' o = A o) ∧ ∀ o, o < 148 → B' o = B o) : sync fC fR := by
  intro A B hI
  obtain ⟨n, k, c, b, h1, h2⟩ := id hI
  obtain ⟨v, A', B', e1, e2, e3, e4, e5, e6⟩ := h A B n k c b h1 h2.1
  exact ⟨v, A', B', e1, e2, Inv2_scr hI e3 e4, e5, e6⟩
/-- both leave their memory as it was but for the scratch of asking -/
theorem q_ask {fC fR : ZI → Option (Int32 × ZI)} {A B : ZI} {v : Int32} (h1 : ∃ A', fC A = some (v, A') ∧ ∀ o, o ≠ 16 → o ≠ 41 → o ≠ 40 → o ≠ 33 → A' o = A o) (h2 : ∃ B', fR B = some (v, B') ∧ ∀ o, o ≠ 159 → o ≠ 160 → B' o = B o) : ∃ v A' B', fC A = some (v, A') ∧ fR B = some (v, B') ∧ scrA A A' ∧ scrB B B' ∧ (∀ o, 148 ≤ o → A' o = A o) ∧ ∀ o, o < 148 → B' o = B o := by
  obtain ⟨A', a1, a2⟩ := h1
  obtain ⟨B', b1, b2⟩ := h2
  exact ⟨v, A', B', a1, b1, scrA_of (fun o q1 q2 q3 q4 _ _ _ => a2 o q1 q4 q3 q2), scrB_of (fun o _ q2 q3 _ => b2 o q2 q3), fun o ho => a2 o (by omega) (by omega) (by omega) (by omega), fun o ho => b2 o (by omega) (by omega)⟩
theorem ask_cls {A B : ZI} {n k c b p u : Nat} {W W' : Int32} (h0 : Inv5 A B n k c b) (hp : p < n) (hu : u ≤ 24) (hW : wordRel W W') : ∃ A', f27_asks 1 2 W (znn p) (znn u) A = some (sAsk (B 149) W' p u, A') ∧ ∀ o, o ≠ 16 → o ≠ 41 → A' o = A o :=
  asks_cls (Or.inl rfl) hp hu hW h0.1 h0.2.1 h0.2.2.1 h0.2.2.2.1
theorem sum_cls2 {A B : ZI} {n k c b p : Nat} (h0 : Inv5 A B n k c b) : ∃ A', f93_weightsNaming (znn p) A = some (znn (sSum (B 149) (fun v => B 149 (80 + v)) p n), A') ∧ ∀ o, o ≠ 16 → o ≠ 41 → A' o = A o := by
  have hn10 := h0.2.1.1.1
  have h48 := h0.2.1.1.2.1
  have h11 : A 1 11 = znn n := h0.1.1.1.1.trans h48
  obtain ⟨⟨r1, r2⟩, h1, h2, h3⟩ := zloop (fun f (a : Int32 × ZI) c => f93_l4 (znn p) f a.1 c a.2) n (fun i a => a.1 = znn (sSum (B 149) (fun v => B 149 (80 + v)) p i) ∧ ∀ o, o ≠ 16 → o ≠ 41 → a.2 o = A o)
    (fun r : Int32 × ZI => r.1 = znn (sSum (B 149) (fun v => B 149 (80 + v)) p n) ∧ ∀ o, o ≠ 16 → o ≠ 41 → r.2 o = A o) (fun f i a hi ha => by
      obtain ⟨a1, a2⟩ := a
      obtain ⟨rfl, g⟩ := ha
      simp only at g
      have hI : Inv5 a2 B n k c b := Inv5_scr h0 (scrA_of (fun o q1 _ _ q4 _ _ _ => g o q1 q4)) rfl
      have e39 : a2 39 i = B 149 (80 + i) := by rw [g 39 (by decide) (by decide)]; exact (h0.1.1.2 i hi).2.2
      left
      (try dsimp only)
      rw [f93_l4, g 1 (by decide) (by decide), h11, if_pos ((zn_lt (by omega) (by omega)).mpr hi), if_pos ((zn_zin (by omega)).mpr (by omega)), zn_zi (by omega), e39, zadd1]
      obtain ⟨A1, b1, b2⟩ := ask_cls (u := 0) (W := 256) (W' := 20) hI hi (by decide) (Or.inl ⟨rfl, rfl⟩)
      obtain ⟨q, hq, e1, e2⟩ := ask20 (B 149) i
      by_cases hv : B 149 (80 + i) = znn p
      · rw [if_pos hv, show (0 : Int32) = znn 0 from rfl, b1]
        refine ⟨(znn (sSum (B 149) (fun v => B 149 (80 + v)) p (i + 1)), A1), ⟨rfl, fun o h1 h2 => (b2 o h1 h2).trans (g o h1 h2)⟩, ?_⟩
        simp only [Option.bind_some, zlet, sSum, if_pos hv]
        rw [e1, zn_add, zn_zi (by omega)]
      · rw [if_neg hv]
        refine ⟨(znn (sSum (B 149) (fun v => B 149 (80 + v)) p (i + 1)), a2), ⟨rfl, g⟩, ?_⟩
        simp only [sSum, if_neg hv, Nat.add_zero]) (fun f a ha => by
      obtain ⟨a1, a2⟩ := a
      obtain ⟨rfl, g⟩ := ha
      simp only at g
      refine ⟨(znn (sSum (B 149) (fun v => B 149 (80 + v)) p n), a2), ⟨rfl, g⟩, ?_⟩
      (try dsimp only)
      rw [f93_l4, g 1 (by decide) (by decide), h11, if_neg (by rw [zn_lt (by omega) (by omega)]; omega)]) zfu 0 (0, A) (by omega) (by rw [zfu_eq]; omega) ⟨rfl, fun _ _ _ => rfl⟩
  refine ⟨r2, ?_, h3⟩
  have h1 : f93_l4 (znn p) zfu 0 0 A = some (r1, r2) := h1
  rw [f93_weightsNaming, h1]
  simp only at h2
  rw [h2]
  rfl
theorem sync_of (x y : Int32) : sync (f92_of x y) (f229_of x y) := sync_q (by
  intro A B n k c b h0
  have hn10 := h0.2.1.1.1
  have same : ∀ v, f92_of x y A = some (v, A) → f229_of x y B = some (v, B) → ∃ v A' B', f92_of x y A = some (v, A') ∧ f229_of x y B = some (v, B') ∧ scrA A A' ∧ scrB B B' ∧ (∀ o, 148 ≤ o → A' o = A o) ∧ ∀ o, o < 148 → B' o = B o := fun v e1 e2 => ⟨v, A, B, e1, e2, scrA_refl A, scrB_refl B, fun _ _ => rfl, fun _ _ => rfl⟩
  rcases has_eq h0 x with ⟨p, hp, rfl, e1, e2⟩ | ⟨e1, e2⟩
  case inr => exact same (-2) (by unfold f92_of; rw [e1]; rfl) (by unfold f229_of; rw [e2]; rfl)
  have hz : zin (znn p) 10 = true := (zn_zin (by omega)).mpr (by omega)
  have zz : zi (znn p) = p := zn_zi (by omega)
  have hy : ∀ d, d ≤ 80 → zin (znn d + znn p) 2064 = true := fun d hd => by rw [zn_add]; exact (zn_zin (by omega)).mpr (by omega)
  have yy : ∀ d, d ≤ 80 → zi (znn d + znn p) = d + p := fun d hd => by rw [zn_add, zn_zi (by omega)]
  obtain ⟨f1, f2, f3⟩ := h0.1.1.2 p hp
  obtain ⟨m1, m2, m3, m4⟩ := h0.2.2.1.2 p hp
  have cls : f92_of (znn p) y A = (if y = (0 : Int32) then some (A 3 p, A) else if y = (1 : Int32) then some (A 37 p, A) else if y = (2 : Int32) then some (A 38 p, A) else if y = (3 : Int32) then some (A 4 p, A) else if y = (4 : Int32) then some (A 5 p, A) else if y = (5 : Int32) then some (A 39 p, A) else if y = (6 : Int32) then some (A 6 p, A) else if y = (7 : Int32) then f27_asks 1 2 256 (znn p) 0 A else if y = (8 : Int32) then f93_weightsNaming (znn p) A else some (-2, A)) := by
    have e : ∀ o : Option (Int32 × ZI), (o.bind fun (x : Int32 × ZI) => some (x.1, x.2)) = o := fun o => by cases o <;> rfl
    unfold f92_of
    rw [e1]
    simp only [Option.bind_some, hz, zz, ↓reduceIte]
    rw [if_neg (by decide)]
    simp only [e]
  have ref : f229_of (znn p) y B = (if y = (0 : Int32) then some (B 149 (17 + p), B) else if y = (1 : Int32) then some (B 149 (60 + p), B) else if y = (2 : Int32) then some (B 149 (70 + p), B) else if y = (3 : Int32) then some (B 149 (27 + p), B) else if y = (4 : Int32) then some (B 149 (37 + p), B) else if y = (5 : Int32) then some (B 149 (80 + p), B) else if y = (6 : Int32) then some (B 149 (7 + p), B) else if y = (7 : Int32) then f207_weightOf (znn p) B else if y = (8 : Int32) then f206_sumFor (znn p) B else some (-2, B)) := by
    have e : ∀ o : Option (Int32 × ZI), (o.bind fun (x : Int32 × ZI) => some (x.1, x.2)) = o := fun o => by cases o <;> rfl
    unfold f229_of
    rw [e2]
    simp only [Option.bind_some, show zin (17 + znn p) 2064 = true from hy 17 (by decide), show zi (17 + znn p) = 17 + p from yy 17 (by decide), show zin (60 + znn p) 2064 = true from hy 60 (by decide), show zi (60 + znn p) = 60 + p from yy 60 (by decide), show zin (70 + znn p) 2064 = true from hy 70 (by decide), show zi (70 + znn p) = 70 + p from yy 70 (by decide), show zin (27 + znn p) 2064 = true from hy 27 (by decide), show zi (27 + znn p) = 27 + p from yy 27 (by decide), show zin (37 + znn p) 2064 = true from hy 37 (by decide), show zi (37 + znn p) = 37 + p from yy 37 (by decide), show zin (80 + znn p) 2064 = true from hy 80 (by decide), show zi (80 + znn p) = 80 + p from yy 80 (by decide), show zin (7 + znn p) 2064 = true from hy 7 (by decide), show zi (7 + znn p) = 7 + p from yy 7 (by decide), ↓reduceIte]
    rw [if_neg (by decide)]
    simp only [e]
  by_cases c0 : y = 0
  · exact same _ (by rw [cls, if_pos c0]) (by rw [ref, if_pos c0, ← m1])
  by_cases c1 : y = 1
  · exact same _ (by rw [cls, if_neg c0, if_pos c1]) (by rw [ref, if_neg c0, if_pos c1, ← f1])
  by_cases c2 : y = 2
  · exact same _ (by rw [cls, if_neg c0, if_neg c1, if_pos c2]) (by rw [ref, if_neg c0, if_neg c1, if_pos c2, ← f2])
  by_cases c3 : y = 3
  · exact same _ (by rw [cls, if_neg c0, if_neg c1, if_neg c2, if_pos c3]) (by rw [ref, if_neg c0, if_neg c1, if_neg c2, if_pos c3, ← m2])
  by_cases c4 : y = 4
  · exact same _ (by rw [cls, if_neg c0, if_neg c1, if_neg c2, if_neg c3, if_pos c4]) (by rw [ref, if_neg c0, if_neg c1, if_neg c2, if_neg c3, if_pos c4, ← m3])
  by_cases c5 : y = 5
  · exact same _ (by rw [cls, if_neg c0, if_neg c1, if_neg c2, if_neg c3, if_neg c4, if_pos c5]) (by rw [ref, if_neg c0, if_neg c1, if_neg c2, if_neg c3, if_neg c4, if_pos c5, ← f3])
  by_cases c6 : y = 6
  · exact same _ (by rw [cls, if_neg c0, if_neg c1, if_neg c2, if_neg c3, if_neg c4, if_neg c5, if_pos c6]) (by rw [ref, if_neg c0, if_neg c1, if_neg c2, if_neg c3, if_neg c4, if_neg c5, if_pos c6, ← m4])
  by_cases c7 : y = 7
  · obtain ⟨A', a1, a2⟩ := ask_cls (u := 0) (W := 256) (W' := 20) h0 hp (by decide) (Or.inl ⟨rfl, rfl⟩)
    obtain ⟨B', b1, b2⟩ := weight_ref (M := B) rfl hp (ask_of h0.2.1) h0.2.2.2.1
    exact q_ask (v := sAsk (B 149) 20 p 0) ⟨A', by rw [cls, if_neg c0, if_neg c1, if_neg c2, if_neg c3, if_neg c4, if_neg c5, if_neg c6, if_pos c7]; exact a1, fun o q1 q2 _ _ => a2 o q1 q2⟩ ⟨B', by rw [ref, if_neg c0, if_neg c1, if_neg c2, if_neg c3, if_neg c4, if_neg c5, if_neg c6, if_pos c7]; exact b1, b2⟩
  by_cases c8 : y = 8
  · obtain ⟨A', a1, a2⟩ := sum_cls2 (p := p) h0
    obtain ⟨B', b1, b2⟩ := sum_ref (M := B) (p := p) rfl (ask_of h0.2.1) h0.2.2.2.1
    exact q_ask ⟨A', by rw [cls, if_neg c0, if_neg c1, if_neg c2, if_neg c3, if_neg c4, if_neg c5, if_neg c6, if_neg c7, if_pos c8]; exact a1, fun o q1 q2 _ _ => a2 o q1 q2⟩ ⟨B', by rw [ref, if_neg c0, if_neg c1, if_neg c2, if_neg c3, if_neg c4, if_neg c5, if_neg c6, if_neg c7, if_pos c8]; exact b1, b2⟩
  · exact same (-2) (by rw [cls, if_neg c0, if_neg c1, if_neg c2, if_neg c3, if_neg c4, if_neg c5, if_neg c6, if_neg c7, if_neg c8]) (by rw [ref, if_neg c0, if_neg c1, if_neg c2, if_neg c3, if_neg c4, if_neg c5, if_neg c6, if_neg c7, if_neg c8]))
theorem sync_after (x y z : Int32) : sync (f94_after x y z) (f230_after x y z) := sync_q (by
  intro A B n k c b h0
  have same : ∀ v, f94_after x y z A = some (v, A) → f230_after x y z B = some (v, B) → ∃ v A' B', f94_after x y z A = some (v, A') ∧ f230_after x y z B = some (v, B') ∧ scrA A A' ∧ scrB B B' ∧ (∀ o, 148 ≤ o → A' o = A o) ∧ ∀ o, o < 148 → B' o = B o := fun v e1 e2 => ⟨v, A, B, e1, e2, scrA_refl A, scrB_refl B, fun _ _ => rfl, fun _ _ => rfl⟩
  rcases has_eq h0 x with ⟨p, hp, rfl, e1, e2⟩ | ⟨e1, e2⟩
  case inr => exact same (-1) (by unfold f94_after; rw [e1]; rfl) (by unfold f230_after; rw [e2]; rfl)
  rcases within_ex (x := y) (lo := 0) (hi := 24) (by decide) (by decide) with ⟨u, -, hu, rfl, e3, e4⟩ | ⟨e3, e4⟩
  case inr => exact same (-1) (by unfold f94_after; rw [e1, show f13_within y 0 24 = some 0 from e3]; rfl) (by unfold f230_after; rw [e2, show f149_isIn y 0 24 = some 0 from e4]; rfl)
  by_cases hz : z = 0
  · obtain ⟨A', a1, a2⟩ := ask_cls (u := u) (W := 257) (W' := 21) h0 hp hu (Or.inr (Or.inl ⟨rfl, rfl⟩))
    obtain ⟨B', b1, b2⟩ := wear_ref (M := B) (u := u) rfl hp h0.2.1 h0.2.2.2.1
    refine q_ask (v := sAsk (B 149) 21 p u) ⟨A', ?_, fun o q1 q2 _ _ => a2 o q1 q2⟩ ⟨B', ?_, b2⟩
    · unfold f94_after
      rw [e1, show f13_within (znn u) 0 24 = some 1 from e3]
      simp only [Option.bind_some]
      rw [if_neg (by decide), if_neg (by decide), if_pos hz]
      simp only [Option.bind_some]
      rw [a1]
      rfl
    · unfold f230_after
      rw [e2, show f149_isIn (znn u) 0 24 = some 1 from e4]
      simp only [Option.bind_some]
      rw [if_neg (by decide), if_neg (by decide), if_pos hz, b1]
      rfl
  · obtain ⟨A', a1, a2⟩ := ask_cls (u := u) (W := 258) (W' := 22) h0 hp hu (Or.inr (Or.inr ⟨rfl, rfl⟩))
    obtain ⟨B', b1, b2⟩ := notice_ref (M := B) (u := u) rfl hp h0.2.1 h0.2.2.2.1
    refine q_ask (v := sAsk (B 149) 22 p u) ⟨A', ?_, fun o q1 q2 _ _ => a2 o q1 q2⟩ ⟨B', ?_, b2⟩
    · unfold f94_after
      rw [e1, show f13_within (znn u) 0 24 = some 1 from e3]
      simp only [Option.bind_some]
      rw [if_neg (by decide), if_neg (by decide), if_neg hz]
      simp only [Option.bind_some]
      rw [a1]
      rfl
    · unfold f230_after
      rw [e2, show f149_isIn (znn u) 0 24 = some 1 from e4]
      simp only [Option.bind_some]
      rw [if_neg (by decide), if_neg (by decide), if_neg hz, b1]
      rfl)
/-- rows that differ in the VOICES alone -/
def rowV (w w' : Nat → Int32) : Prop := ∀ j, ¬ (80 ≤ j ∧ j < 90) → w' j = w j
theorem sVal_V {F w w' : Nat → Int32} (h : rowV w w') (a b : Nat) : sVal F w' a b = sVal F w a b := by
  unfold sVal
  rw [sRun_L (fun j hj => h j (by omega))]
theorem sFind_V {F w w' : Nat → Int32} {word : Int32} (h : rowV w w') : ∀ d i, sFind F w' word d i = sFind F w word d i
  | 0, _ => rfl
  | d + 1, i => by
    unfold sFind sSo
    rw [sVal_V h, h _ (by omega), h _ (by omega), h _ (by omega), sFind_V h d (i + 1)]
theorem sAsk_V {w w' : Nat → Int32} {W : Int32} {p u : Nat} (h : rowV w w') (hp : p < 10) : sAsk w' W p u = sAsk w W p u := by
  have hF : sF w' p (znn u) = sF w p (znn u) := by
    funext j
    unfold sF
    split <;> first | rfl | exact h _ (by omega) | (rw [h _ (by omega)])
  unfold sAsk sSays
  rw [hF, h 58 (by omega), sFind_V h]
  cases sFind (sF w p (znn u)) w W (zi (w 58)) 0 with
  | none => rfl
  | some i => simp only [sLine]; rw [h _ (by omega), h _ (by omega), sVal_V h]
theorem sSat_V {w w' : Nat → Int32} {S : Nat} (h : rowV w w') (hr : ruleOk w) : sSat w' S = sSat w S := by
  obtain ⟨c, hc, h54, -⟩ := hr
  unfold sSat
  rw [h 54 (by omega), h54, zn_zi (by omega), cRun_C (fun j q1 q2 => h j (by omega)) c 0 [] (by omega)]
theorem sSum_V {w w' vo : Nat → Int32} {p : Nat} (h : rowV w w') : ∀ m, m ≤ 10 → sSum w' vo p m = sSum w vo p m
  | 0, _ => rfl
  | m + 1, hm => by
    unfold sSum
    rw [sSum_V h m (by omega), sAsk_V h (by omega)]
theorem sGiv_V {w w' vo : Nat → Int32} {n : Nat} (h : rowV w w') (hr : ruleOk w) (hn : n ≤ 10) : ∀ i, i ≤ n → sGiv w' vo n i = sGiv w vo n i
  | 0, _ => rfl
  | i + 1, hi => by
    have hb : ∀ q, (∀ x, q = some x → x < n) → sBef w' vo n i q = sBef w vo n i q := by
      intro q hq
      cases q with
      | none => rfl
      | some x =>
        have := hq x rfl
        simp only [sBef, sSum_V h n hn]
        rw [h (60 + x) (by omega), h (60 + i) (by omega)]
    unfold sGiv
    rw [sGiv_V h hr hn i (by omega), sSum_V h n hn, sSat_V h hr, hb _ (fun x hx => by
      have := (sGiv_lt w vo n i x hx).1
      omega)]
theorem ask_V {w w' : Nat → Int32} {n c : Nat} (h : rowV w w') (hok : askOk w n c) : askOk w' n c :=
  ⟨hok.1, by rw [h 48 (by omega)]; exact hok.2.1, lawOk_L (h 58 (by omega)) (fun j hj => h j (by omega)) hok.2.2.1, ruleOk_C (h 53 (by omega)) (h 54 (by omega)) (fun j q1 q2 => h j (by omega)) hok.2.2.2⟩
theorem sync_can (x : Int32) : sync (f101_can x) (f241_can x) := sync_q (by
  intro A B n k c b h0
  have hn10 := h0.2.1.1.1
  have h48 := h0.2.1.1.2.1
  have h11 : A 1 11 = znn n := h0.1.1.1.1.trans h48
  have hru := h0.2.1.2.2.2.1
  rcases has_eq h0 x with ⟨p, hp, rfl, e1, e2⟩ | ⟨e1, e2⟩
  case inr => exact ⟨-1, A, B, by unfold f101_can; rw [e1]; rfl, by unfold f241_can; rw [e2]; rfl, scrA_refl A, scrB_refl B, fun _ _ => rfl, fun _ _ => rfl⟩
  obtain ⟨A1, a1, a2, a3⟩ := weigh_cls (Or.inl rfl) h0.1 h0.2.1 h0.2.2.1 h0.2.2.2.1
  have z80 : (80 : Int32) + znn p = znn (80 + p) := zn_add 80 p
  have hz : zin (znn (80 + p)) 2064 = true := (zn_zin (by omega)).mpr (by omega)
  have zz : zi (znn (80 + p)) = 80 + p := zn_zi (by omega)
  -- from other = -1 on: the counter is one ahead
  have step : ∀ (A2 B2 : ZI) (o : Int32), o ≠ znn p → (∀ q, q ≠ 16 → q ≠ 41 → q ≠ 40 → q ≠ 33 → A2 q = A q) → A2 40 = A1 40 → (∀ q, q ≠ 149 → q ≠ 159 → q ≠ 160 → B2 q = B q) → rowV (B 149) (B2 149) → (∀ j, j ≠ 80 + p → B2 149 j = B 149 j) → ∃ (A3 B3 : ZI) (g : Option Nat), f36_elect 1 (znn p) o A2 = some (optI g, A3) ∧ f205_givenNow (zs B2 149 (80 + p) o) = some (optI g, B3) ∧ (∀ q, g = some q → q < n) ∧ (∀ q, q ≠ 16 → q ≠ 41 → q ≠ 40 → q ≠ 33 → A3 q = A q) ∧ A3 40 = A1 40 ∧ (∀ q, q ≠ 149 → q ≠ 159 → q ≠ 160 → B3 q = B q) ∧ rowV (B 149) (B3 149) ∧ ∀ j, j ≠ 80 + p → B3 149 j = B 149 j := by
    intro A2 B2 o ho g1 g2 g3 g4 g5
    have hf : fixIs A2 1 (B 149) n k c b := fixIs_of h0.1 (fun q hq => g1 q (by omega) (by omega) (by omega) (by omega))
    obtain ⟨A3, c1, c2⟩ := elect_cls (voter := znn p) (other := o) hf h0.2.1 h0.2.2.2.1 (fun v hv => by rw [g2]; exact a2 v hv)
    have e149 : ∀ j, (zs B2 149 (80 + p) o) 149 j = if j = 80 + p then o else B2 149 j := fun j => zs_sm _ _ _ _ _
    have hV : rowV (B 149) ((zs B2 149 (80 + p) o) 149) := fun j hj => by rw [e149, if_neg (by omega)]; exact g4 j hj
    obtain ⟨B3, d1, d2⟩ := giv_ref (M := zs B2 149 (80 + p) o) rfl (ask_V hV (ask_of h0.2.1)) (momOk_row h0.2.2.2.1 hn10 (fun j hj => hV j (by omega)))
    have hg : sGiv ((zs B2 149 (80 + p) o) 149) (fun v => (zs B2 149 (80 + p) o) 149 (80 + v)) n n = sGiv (B 149) (sVo (B 149) (znn p) o) n n := by
      rw [sGiv_V hV hru hn10 n (Nat.le_refl _)]
      refine sGiv_congr (fun v hv => ?_) n
      show (zs B2 149 (80 + p) o) 149 (80 + v) = sVo (B 149) (znn p) o v
      unfold sVo
      rw [e149]
      by_cases hvp : v = p
      · rw [if_pos (by omega), if_pos (by rw [hvp])]
      · rw [if_neg (by omega), if_neg (by rw [zn_eq (by omega) (by omega)]; exact hvp), g5 _ (by omega)]
    rw [hg] at d1
    refine ⟨A3, B3, _, c1, d1, fun q hq => (sGiv_lt _ _ _ _ _ hq).1, fun q q1 q2 q3 q4 => (c2 q q4).trans (g1 q q1 q2 q3 q4), (c2 40 (by decide)).trans g2, fun q q1 q2 q3 => (d2 q q2 q3).trans ((zs_df q1).trans (g3 q q1 q2 q3)), ?_, ?_⟩
    · rw [d2 149 (by decide) (by decide)]; exact hV
    · intro j hj
      rw [d2 149 (by decide) (by decide), e149, if_neg hj]
      exact g5 j hj
  have opt : ∀ g : Option Nat, (∀ q, g = some q → q < n) → (optI g < 0 ↔ optI g = -1) := by
    intro g hg
    cases g with
    | none => exact ⟨fun _ => rfl, fun _ => by decide⟩
    | some q =>
      have := hg q rfl
      exact ⟨fun h => absurd h (zn_nneg (by omega)), fun h => absurd h (zn_ne_neg (by omega))⟩
  obtain ⟨mf, hmf, hmf2⟩ : ∃ m, zfu = m + 1 ∧ 10 < m := ⟨99999, rfl, by decide⟩
  -- the first: nobody
  obtain ⟨A2, B2, g, c1, d1, c3, c4, c5, c6, c7, c8⟩ := step A1 B (-1) (fun h => zn_ne_neg (by omega) h.symm) (fun q q1 q2 q3 _ => a3 q q1 q2 q3) rfl (fun _ _ _ _ => rfl) (fun _ _ => rfl) (fun _ _ => rfl)
  obtain ⟨⟨r1, A9⟩, ⟨r2, B9⟩, k1, k2, k3, k4, k5, k6, k7⟩ := zpair (fun f (a : Int32 × ZI) c => f101_l31 (znn p) f a.1 c a.2) (fun f (a : Int32 × ZI) c => f241_l25 (znn p) f a.1 c a.2) n (fun i a d => a.1 = d.1 ∧ (∀ q, q ≠ 16 → q ≠ 41 → q ≠ 40 → q ≠ 33 → a.2 q = A q) ∧ a.2 40 = A1 40 ∧ (∀ q, q ≠ 149 → q ≠ 159 → q ≠ 160 → d.2 q = B q) ∧ rowV (B 149) (d.2 149) ∧ ∀ j, j ≠ 80 + p → d.2 149 j = B 149 j) (fun a d => a.1 = d.1 ∧ (∀ q, q ≠ 16 → q ≠ 41 → q ≠ 40 → q ≠ 33 → a.2 q = A q) ∧ (∀ q, q ≠ 149 → q ≠ 159 → q ≠ 160 → d.2 q = B q) ∧ (∀ j, j ≠ 80 + p → d.2 149 j = B 149 j) ∧ True) (fun f i a d hi had => by
      obtain ⟨x1, A3⟩ := a
      obtain ⟨x2, B3⟩ := d
      obtain ⟨rfl, g1, g2, g3, g4, g5⟩ := had
      simp only at g1 g2 g3 g4 g5
      have hlt : znn i < znn n := (zn_lt (by omega) (by omega)).mpr hi
      have e48 : B3 149 48 = znn n := (g4 48 (by omega)).trans h48
      have e11 : A3 1 11 = znn n := by rw [g1 1 (by decide) (by decide) (by decide) (by decide)]; exact h11
      left
      (try dsimp only)
      rw [f101_l31, f241_l25, e11, e48, if_pos hlt, if_pos hlt, zadd1]
      by_cases hip : i = p
      · rw [if_pos (by rw [hip]), if_pos (by rw [hip])]
        simp only [Option.bind_some]
        rw [if_pos (by decide)]
        exact ⟨(x1, A3), (x1, B3), ⟨rfl, g1, g2, g3, g4, g5⟩, rfl, rfl⟩
      · have hip' : ¬ znn i = znn p := by rw [zn_eq (by omega) (by omega)]; exact hip
        obtain ⟨A4, B4, g', c1, d1, c3, c4, c5, c6, c7, c8⟩ := step A3 B3 (znn i) hip' g1 g2 g3 g4 g5
        rw [if_neg hip', if_neg hip', z80, if_pos hz, zz, c1]
        simp only [Option.bind_some, zlet]
        rw [d1]
        simp only [Option.bind_some]
        by_cases hg : optI g' = -1
        · rw [if_pos ((opt g' c3).mpr hg), if_pos hg]
          exact ⟨(x1, A4), (x1, B4), ⟨rfl, c4, c5, c6, c7, c8⟩, rfl, by rw [Int32.or_zero]⟩
        · rw [if_neg (fun h => hg ((opt g' c3).mp h)), if_neg hg]
          exact ⟨(x1 ||| zshl 1 (optI g'), A4), (x1 ||| zshl 1 (optI g'), B4), ⟨rfl, c4, c5, c6, c7, c8⟩, rfl, rfl⟩) (fun f a d had => by
      obtain ⟨x1, A3⟩ := a
      obtain ⟨x2, B3⟩ := d
      obtain ⟨rfl, g1, g2, g3, g4, g5⟩ := had
      simp only at g1 g2 g3 g4 g5
      have e48 : B3 149 48 = znn n := (g4 48 (by omega)).trans h48
      have e11 : A3 1 11 = znn n := by rw [g1 1 (by decide) (by decide) (by decide) (by decide)]; exact h11
      refine ⟨(x1, A3), (x1, B3), ⟨rfl, g1, g3, g5, trivial⟩, ?_, ?_⟩
      · (try dsimp only)
        rw [f101_l31, e11, if_neg (by rw [zn_lt (by omega) (by omega)]; omega)]
      · (try dsimp only)
        rw [f241_l25, e48, if_neg (by rw [zn_lt (by omega) (by omega)]; omega)]) mf 0 (if optI g = -1 then 0 else 0 ||| zshl 1 (optI g), A2) (if optI g = -1 then 0 else 0 ||| zshl 1 (optI g), B2) (by omega) (by omega) ⟨rfl, c4, c5, c6, c7, c8⟩
  simp only at k3 k4 k5 k6
  subst k3
  have first : ∀ hneg : (-1 : Int32) < znn n, f101_l31 (znn p) zfu 0 (-1) A1 = some (r1, A9) ∧ f241_l25 (znn p) zfu 0 (-1) B = some (r1, B9) := by
    intro hneg
    have k1 : f101_l31 (znn p) mf (if optI g = -1 then 0 else 0 ||| zshl 1 (optI g)) 0 A2 = some (r1, A9) := k1
    have k2 : f241_l25 (znn p) mf (if optI g = -1 then 0 else 0 ||| zshl 1 (optI g)) 0 B2 = some (r1, B9) := k2
    have e11 : A1 1 11 = znn n := by rw [a3 1 (by decide) (by decide) (by decide)]; exact h11
    have hne : ¬ (-1 : Int32) = znn p := zn_ne_neg' (by omega)
    constructor
    · rw [hmf, f101_l31, e11, if_pos hneg, if_neg hne, c1]
      simp only [Option.bind_some, zlet]
      rw [show (-1 : Int32) + 1 = 0 from rfl]
      by_cases hg : optI g = -1
      · rw [if_pos hg] at k1
        rw [if_pos ((opt g c3).mpr hg)]; exact k1
      · rw [if_neg hg] at k1
        rw [if_neg (fun h => hg ((opt g c3).mp h))]; exact k1
    · rw [hmf, f241_l25, h48, if_pos hneg, if_neg hne, z80, if_pos hz, zz]
      simp only [zlet]
      rw [d1]
      simp only [Option.bind_some]
      rw [show (-1 : Int32) + 1 = 0 from rfl]
      by_cases hg : optI g = -1
      · rw [if_pos hg] at k2
        rw [if_pos hg, Int32.or_zero]; exact k2
      · rw [if_neg hg] at k2
        rw [if_neg hg]; exact k2
  obtain ⟨l1, l2⟩ := first (neg_lt_zn (by omega))
  refine ⟨r1, A9, zs B9 149 (80 + p) (B 149 (80 + p)), ?_, ?_, scrA_of (fun o q1 q2 q3 q4 _ _ _ => k4 o q1 q4 q3 q2), ⟨fun o q1 q2 q3 q4 q5 => ?_, fun j hj => by rw [zs_df (by decide), k5 148 (by decide) (by decide) (by decide)]⟩, fun o ho => k4 o (by omega) (by omega) (by omega) (by omega), fun o ho => (zs_df (by omega)).trans (k5 o (by omega) (by omega) (by omega))⟩
  · unfold f101_can
    rw [e1]
    simp only [Option.bind_some]
    rw [if_neg (by decide), a1]
    simp only [Option.bind_some]
    rw [l1]
    rfl
  · unfold f241_can
    rw [e2]
    simp only [Option.bind_some]
    rw [if_neg (by decide), z80, if_pos hz, zz]
    simp only [zlet]
    rw [l2]
    simp only [Option.bind_some]
    rw [if_pos hz]
  · by_cases h149 : o = 149
    · subst h149
      funext j
      rw [zs_sm]
      by_cases hj : j = 80 + p
      · rw [if_pos hj, hj]
      · rw [if_neg hj]; exact k6 j hj
    · rw [zs_df h149]
      exact k5 o h149 q3 q4)
