-- ===== frames over class cells too; a LAND that is changed =====
def gF (own : Nat → Prop) (M : ZI) (R : ZF) (L : ZY) (M' : ZI) (R' : ZF) (L' : ZY) : Prop := (∃ X, L' = L ++ X) ∧ (∀ c, 148 ≤ c → c < L.length → ¬ own c → M' c = M c ∧ R' c = R c) ∧ ∀ c, c < 148 → R' c = R c
theorem gF_refl {own : Nat → Prop} {M : ZI} {R : ZF} {L : ZY} : gF own M R L M R L := ⟨⟨[], by simp⟩, fun _ _ _ _ => ⟨rfl, rfl⟩, fun _ _ => rfl⟩
theorem gF_trans {own : Nat → Prop} {M M1 M2 : ZI} {R R1 R2 : ZF} {L L1 L2 : ZY} (h1 : gF own M R L M1 R1 L1) (h2 : gF own M1 R1 L1 M2 R2 L2) : gF own M R L M2 R2 L2 := by
  obtain ⟨⟨X, rfl⟩, g1, k1⟩ := h1
  obtain ⟨⟨Y, rfl⟩, g2, k2⟩ := h2
  refine ⟨⟨X ++ Y, by simp⟩, fun c h148 hc ho => ?_, fun c hc => (k2 c hc).trans (k1 c hc)⟩
  obtain ⟨a1, a2⟩ := g1 c h148 hc ho
  obtain ⟨b1, b2⟩ := g2 c h148 (by simp; omega) ho
  exact ⟨b1.trans a1, b2.trans a2⟩
theorem gF_wide {own own' : Nat → Prop} {M M1 : ZI} {R R1 : ZF} {L L1 : ZY} (h1 : gF own M R L M1 R1 L1) (h : ∀ c, c < L.length → own c → own' c) : gF own' M R L M1 R1 L1 := ⟨h1.1, fun c q1 hc ho => h1.2.1 c q1 hc (fun hh => ho (h c hc hh)), h1.2.2⟩
theorem zg_len {R : ZF} {L : ZY} (hz : zgood R L = true) : 148 ≤ L.length := by
  simp only [zgood, Bool.and_eq_true, decide_eq_true_eq] at hz
  have : (L.take 148).length = 148 := by rw [hz.1]; rfl
  rw [List.length_take] at this
  omega
theorem gF_hFr {own : Nat → Prop} {M M1 : ZI} {R R1 : ZF} {L L1 : ZY} (h : hFr own M R L M1 R1 L1) (hz : 148 ≤ L.length) (ho : ∀ c, own c → 148 ≤ c) : gF own M R L M1 R1 L1 :=
  ⟨h.1, fun c _ hc hh => h.2 c hc hh, fun c hc => (h.2 c (by omega) (fun hh => by have := ho c hh; omega)).2⟩
theorem gF_evo {own : Nat → Prop} {M M1 : ZI} {R R1 : ZF} {L L1 : ZY} (h : evo M R L M1 R1 L1) (hz : 148 ≤ L.length) : gF own M R L M1 R1 L1 :=
  ⟨h.1, fun c q1 hc _ => ⟨h.2.1 c q1 hc, h.2.2 c hc⟩, fun c hc => h.2.2 c (by omega)⟩
/-- a call of the class -/
theorem gF_call {own : Nat → Prop} {M M1 : ZI} {R : ZF} {L : ZY} (h : ∀ o, 148 ≤ o → M1 o = M o) : gF own M R L M1 R L := ⟨⟨[], by simp⟩, fun c q1 _ _ => ⟨h c q1, rfl⟩, fun _ _ => rfl⟩
theorem gF_split {own : Nat → Prop} {M M' : ZI} {R R' : ZF} {L L' : ZY} (h : gF own M R L M' R' L') : ∃ M1, hFr own M R L M1 R' L' ∧ evo M1 R' L' M' R' L' := by
  refine ⟨fun c => if c < 148 then M c else M' c, ⟨h.1, fun c hc ho => ?_⟩, ⟨[], by simp⟩, fun c q1 _ => ?_, fun _ _ => rfl⟩
  · by_cases h148 : c < 148
    · exact ⟨if_pos h148, h.2.2 c h148⟩
    · obtain ⟨a1, a2⟩ := h.2.1 c (by omega) hc ho
      exact ⟨(if_neg h148).trans a1, a2⟩
  · exact (if_neg (by omega)).symm
theorem zgood_gF {own : Nat → Prop} {M M' : ZI} {R R' : ZF} {L L' : ZY} (h : gF own M R L M' R' L') (hg : zgood R L = true) : zgood R' L' = true :=
  zgood_fr (own := fun c => 148 ≤ c) (M := fun _ _ => 0) (M1 := fun _ _ => 0) ⟨h.1, fun c hc ho => ⟨rfl, h.2.2 c (Nat.lt_of_not_le ho)⟩⟩ (fun _ hh => hh) hg
theorem gF_lay {own : Nat → Prop} {M M' : ZI} {R R' : ZF} {L L' : ZY} (h : gF own M R L M' R' L') {o : Nat} {q : Nat × Nat} (ho : L[o]? = some q) : L'[o]? = some q := by
  obtain ⟨X, rfl⟩ := h.1
  exact lay_app ho
theorem landIs_gF {own : Nat → Prop} {M M' : ZI} {R R' : ZF} {L L' : ZY} {t b n k : Nat} {w : Nat → Int32} (h : landIs M R L t b w n k) (hg : gF own M R L M' R' L') (ho : ∀ c x y, own c → L[c]? = some (x, y) → x = 52 ∨ x = 50 ∨ x = 14 ∨ x = 15) (hz : zgood R L = true) : landIs M' R' L' t b w n k :=
  landIs_gen h hg.1 (fun c x y hc hx q1 => hg.2.1 c q1 (lay_le hc) (fun hh => by
    have := ho c x y hh hc
    omega)) hz (zgood_gF hg hz)
theorem landIs_oth {M M' : ZI} {R R' : ZF} {L L' : ZY} {t b u bu n k : Nat} {w : Nat → Int32} (h : landIs M R L u bu w n k) (hk : k ≤ 9) (hT : lndO R L t) (hb : 148 ≤ b) (hP : ∀ p, p < n → L[b + p]? = some (0, 7)) (hg : gF (ownL t b n) M R L M' R' L') (hz : zgood R L = true) (hu : u ≠ t) (hd : bu + n ≤ b ∨ b + n ≤ bu) (hl : ∀ d, R u 14 = some d → d < b ∨ b + n ≤ d) : landIs M' R' L' u bu w n k := by
  obtain ⟨M1, h1, h2⟩ := gF_split hg
  exact landIs_evo (landIs_other h hk hT hb hP h1 hu hd hl) h2 (zgood_gF hg hz)
def own2 (t b n c : Nat) : Prop := c = t ∨ (b ≤ c ∧ c < b + n)
theorem own2_L {t b n c : Nat} (h : own2 t b n c) : ownL t b n c := by
  rcases h with h | h
  · exact Or.inl h
  · exact Or.inr (Or.inr (Or.inr h))
theorem not_own2 {L : ZY} {t b n c x y : Nat} (h1 : L[t]? = some (13, 15)) (h4 : ∀ p, p < n → L[b + p]? = some (0, 7)) (hc : L[c]? = some (x, y)) (hx : (x, y) ≠ (13, 15) ∧ (x, y) ≠ (0, 7)) : ¬ own2 t b n c := by
  rintro (rfl | ⟨h5, h6⟩)
  · rw [h1] at hc; exact hx.1 (Option.some.inj hc).symm
  · have := h4 (c - b) (by omega)
    rw [show b + (c - b) = c by omega, hc] at this
    exact hx.2 (Option.some.inj this)
theorem lndC_keep {M M' : ZI} {R R' : ZF} {L L' : ZY} {t b n : Nat} {w w' : Nat → Int32} (h : lndC M R L t w) (hO : lndO R L t) (hP : ∀ p, p < n → L[b + p]? = some (0, 7)) (hg : gF (own2 t b n) M R L M' R' L') (hz : zgood R L = true) (h13 : R' t 13 = R t 13) (hs : ∀ S, S < 1024 → sSat w' S = sSat w S) : lndC M' R' L' t w' := by
  unfold lndC at h ⊢
  rw [h13]
  cases hd : R t 13 with
  | none =>
    rw [hd] at h
    intro S hS
    rw [hs S hS]
    exact h S hS
  | some r =>
    rw [hd] at h
    obtain ⟨X, hX⟩ := hg.1
    refine ⟨by rw [hX]; exact gob_app h.1, h.2.1, fun S hS => ?_⟩
    rw [hs S hS]
    exact rule_fr hg.1 (fun c nn hc => hg.2.1 c (rule148 hz hc) (lay_le hc) (not_own2 hO.1 hP hc (by simp))) (fun _ => zgood_gF hg hz) _ _ _ _ (h.2.2 S hS)
theorem lndW_keep {M M' : ZI} {R R' : ZF} {L L' : ZY} {t b n k : Nat} {w w' : Nat → Int32} (h : lndW M R L t w k) (hO : lndO R L t) (hP : ∀ p, p < n → L[b + p]? = some (0, 7)) (hg : gF (own2 t b n) M R L M' R' L') (h11 : R' t 11 = R t 11) (hw : ∀ i f, i < k → f < 6 → w' (90 + 6 * i + f) = w (90 + 6 * i + f)) : lndW M' R' L' t w' k := by
  obtain ⟨a, q, a1, a2, a3, a4⟩ := h
  refine ⟨a, q, a1, h11.trans a2, gF_lay hg a3, fun i hi => ?_⟩
  obtain ⟨g1, g2, g3, g4⟩ := a4 i hi
  have e1 := hg.2.1 a a1 (lay_le a3) (not_own2 hO.1 hP a3 (by simp))
  have e2 := hg.2.1 (q i) g1 (lay_le g3) (not_own2 hO.1 hP g3 (by decide))
  exact ⟨g1, by rw [e1.2]; exact g2, gF_lay hg g3, fun f hf => by rw [e2.1, g4 f hf, hw i f hi hf]⟩
/-- the LAND itself is changed: its fields, its rows of people, its works, its rule -/
theorem landIs_upd {M M' : ZI} {R R' : ZF} {L L' : ZY} {t b n k k' : Nat} {w w' : Nat → Int32} (h : landIs M R L t b w n k) (hn : n ≤ 10) (hg : gF (own2 t b n) M R L M' R' L') (hR : ∀ j, j = 10 ∨ j = 12 ∨ j = 14 → R' t j = R t j) (hF : lndF M' t w') (hQ : ∀ p, p < n → lndQ M' (b + p) w' p) (hW : lndW M' R' L' t w' k') (hC : lndC M' R' L' t w') (h5 : w' 5 = w 5) (hB : ∀ i f, i < zi (w 5) → f < 4 → w' (578 + 4 * i + f) = w (578 + 4 * i + f)) (hl : w' 58 = w 58) (hl2 : ∀ x, 1178 ≤ x → w' x = w x) : landIs M' R' L' t b w' n k' := by
  obtain ⟨⟨o1, o2, o3, o4, o5, o6⟩, -, ⟨hb, hP⟩, -, hBo, -, hL⟩ := id h
  have hP7 : ∀ p, p < n → L[b + p]? = some (0, 7) := fun p hp => (hP p hp).2.1
  have e1 := hg.2.1 (t + 1) (by omega) (lay_le o2) (not_own2 o1 hP7 o2 (by simp))
  have e3 := hg.2.1 (t + 3) (by omega) (lay_le o3) (not_own2 o1 hP7 o3 (by simp))
  refine ⟨⟨gF_lay hg o1, gF_lay hg o2, gF_lay hg o3, by rw [hR 10 (by simp)]; exact o4, by rw [hR 12 (by simp)]; exact o5, o6⟩, hF, ⟨hb, fun p hp => ?_⟩, hW, fun i hi => ?_, hC, ?_⟩
  · obtain ⟨p1, p2, -⟩ := hP p hp
    exact ⟨by rw [e1.2]; exact p1, gF_lay hg p2, hQ p hp⟩
  · rw [h5] at hi
    obtain ⟨r, r1, r2, r3, r4⟩ := hBo i hi
    exact ⟨r, r1, by rw [e3.2]; exact r2, gF_lay hg r3, fun f hf => by rw [(hg.2.1 r r1 (lay_le r3) (not_own2 o1 hP7 r3 (by decide))).1, r4 f hf, hB i f hi hf]⟩
  · unfold lndL at hL ⊢
    rw [hR 14 (by simp)]
    cases hd : R t 14 with
    | none =>
      rw [hd] at hL
      simp only at hL ⊢
      rw [hl]
      exact hL
    | some d =>
      rw [hd] at hL
      obtain ⟨l1, l2, l3, l4⟩ := hL
      have hdo : ¬ own2 t b n d := by
        rintro (rfl | ⟨h5, h6⟩)
        · rw [o1] at l1; cases l1
        · omega
      refine ⟨gF_lay hg l1, l2, l3, ?_⟩
      rw [(hg.2.1 d l2 (lay_le l1) hdo).1]
      intro v v1 v2 v3
      exact l4 v (fun x hx => (v1 x hx).trans (hl2 x hx)) (v2.trans hl) v3
/-- a call of the class goes as the reference's -/
theorem call_r {fC fR : ZI → Option (Int32 × ZI)} {M B B' : ZI} {v : Int32} (h : sync fC fR) (hI : Inv2 M B) (hf : fR B = some (v, B')) : ∃ M', fC M = some (v, M') ∧ Inv2 M' B' ∧ ∀ o, 148 ≤ o → M' o = M o := by
  obtain ⟨u, A', B2, e1, e2, e3, e4, -⟩ := h M B hI
  rw [hf] at e2
  cases e2
  exact ⟨A', e1, e3, e4⟩
