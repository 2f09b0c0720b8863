-- ===== what a LAND keeps when the heap grows and is written elsewhere =====
def hFr (own : Nat → Prop) (M : ZI) (R : ZF) (L : ZY) (M' : ZI) (R' : ZF) (L' : ZY) : Prop := (∃ X, L' = L ++ X) ∧ ∀ c, c < L.length → ¬ own c → M' c = M c ∧ R' c = R c
def ownL (t b n c : Nat) : Prop := c = t ∨ c = t + 1 ∨ c = t + 3 ∨ (b ≤ c ∧ c < b + n)
theorem hFr_refl {own : Nat → Prop} {M : ZI} {R : ZF} {L : ZY} : hFr own M R L M R L := ⟨⟨[], by simp⟩, fun _ _ _ => ⟨rfl, rfl⟩⟩
theorem hFr_trans {own : Nat → Prop} {M M1 M2 : ZI} {R R1 R2 : ZF} {L L1 L2 : ZY} (h1 : hFr own M R L M1 R1 L1) (h2 : hFr own M1 R1 L1 M2 R2 L2) : hFr own M R L M2 R2 L2 := by
  obtain ⟨⟨X, rfl⟩, g1⟩ := h1
  obtain ⟨⟨Y, rfl⟩, g2⟩ := h2
  refine ⟨⟨X ++ Y, by simp⟩, fun c hc ho => ?_⟩
  obtain ⟨a1, a2⟩ := g1 c hc ho
  obtain ⟨b1, b2⟩ := g2 c (by simp; omega) ho
  exact ⟨b1.trans a1, b2.trans a2⟩
theorem hFr_wide {own own' : Nat → Prop} {M M1 : ZI} {R R1 : ZF} {L L1 : ZY} (h1 : hFr own M R L M1 R1 L1) (h : ∀ c, c < L.length → own c → own' c) : hFr own' M R L M1 R1 L1 := ⟨h1.1, fun c hc ho => h1.2 c hc (fun hh => ho (h c hc hh))⟩
theorem lay_app {L X : ZY} {o : Nat} {q : Nat × Nat} (h : L[o]? = some q) : (L ++ X)[o]? = some q := by
  rw [List.getElem?_append_left (List.getElem?_eq_some_iff.mp h).1]; exact h
theorem lay_le {L : ZY} {o : Nat} {q : Nat × Nat} (h : L[o]? = some q) : o < L.length := (List.getElem?_eq_some_iff.mp h).1
theorem hFr_lay {own : Nat → Prop} {M M1 : ZI} {R R1 : ZF} {L L1 : ZY} (h : hFr own M R L M1 R1 L1) {o : Nat} {q : Nat × Nat} (ho : L[o]? = some q) : L1[o]? = some q := by
  obtain ⟨⟨X, rfl⟩, -⟩ := h
  exact lay_app ho
theorem gob_app {L X : ZY} {o c : Nat} (h : gob L o c = true) : gob (L ++ X) o c = true := by
  obtain ⟨h1, n, h2⟩ := gob_sp h
  exact gob_of (lay_app h2) h1
theorem zgood_fr {own : Nat → Prop} {M M1 : ZI} {R R1 : ZF} {L L1 : ZY} (h : hFr own M R L M1 R1 L1) (hown : ∀ c, own c → 148 ≤ c) (hg : zgood R L = true) : zgood R1 L1 = true := by
  obtain ⟨⟨X, rfl⟩, g⟩ := h
  simp only [zgood, Bool.and_eq_true, decide_eq_true_eq, List.all_eq_true] at hg ⊢
  obtain ⟨h1, h2⟩ := hg
  have hlen : 148 ≤ L.length := by
    have : (L.take 148).length = 148 := by rw [h1]; rfl
    rw [List.length_take] at this
    omega
  refine ⟨by rw [List.take_append_of_le_length hlen]; exact h1, fun z hz => ?_⟩
  have h3 : ∀ z ∈ zRL, z.1 < 148 := by decide +kernel
  have h4 := h3 z hz
  rw [(g z.1 (by omega) (fun ho => by have := hown _ ho; omega)).2]
  exact h2 z hz
theorem rule_fr {M M' : ZI} {R R' : ZF} {L L' : ZY} (hX : ∃ X, L' = L ++ X) (h : ∀ c n, L[c]? = some (16, n) → M' c = M c ∧ R' c = R c) (hzz : zgood R L = true → zgood R' L' = true) : ∀ (n r : Nat) (S v : Int32), g106_does n r S M R L = some v → g106_does n r S M' R' L' = some v := by
  obtain ⟨X, rfl⟩ := hX
  intro n
  induction n with
  | zero => intro r S v hh; cases hh
  | succ n ih =>
    intro r S v hh
    simp only [g106_does, g106_does_b] at hh ⊢
    by_cases hg : gob L r 13 = true
    · rw [if_pos hg] at hh
      obtain ⟨_, nn, hq⟩ := gob_sp hg
      obtain ⟨e1, e2⟩ := h r nn hq
      rw [if_pos (gob_app hg), e1, e2]
      by_cases c0 : M r 0 = 0
      · rw [if_pos c0] at hh ⊢; exact hh
      · rw [if_neg c0] at hh ⊢
        by_cases c1 : M r 0 = 1
        · rw [if_pos c1] at hh ⊢
          by_cases hz : zgood R L = true
          · rw [if_pos hz] at hh; rw [if_pos (hzz hz)]; exact hh
          · rw [if_neg hz] at hh; cases hh
        · rw [if_neg c1] at hh ⊢
          by_cases c2 : M r 0 = 2
          · rw [if_pos c2] at hh ⊢
            obtain ⟨r8, hr8, hh⟩ := Option.bind_eq_some_iff.mp hh
            rw [hr8]
            simp only [Option.bind_some]
            by_cases g8 : gob L r8 13 = true
            · rw [if_pos g8] at hh
              rw [if_pos (gob_app g8)]
              obtain ⟨v10, hv10, hh⟩ := Option.bind_eq_some_iff.mp hh
              rw [ih r8 S v10 hv10]
              simp only [Option.bind_some]
              by_cases cv : v10 = 0
              · rw [if_pos cv] at hh ⊢; exact hh
              · rw [if_neg cv] at hh ⊢
                obtain ⟨r11, hr11, hh⟩ := Option.bind_eq_some_iff.mp hh
                rw [hr11]
                simp only [Option.bind_some]
                by_cases g11 : gob L r11 13 = true
                · rw [if_pos g11] at hh
                  rw [if_pos (gob_app g11)]
                  obtain ⟨v13, hv13, hh⟩ := Option.bind_eq_some_iff.mp hh
                  rw [ih r11 S v13 hv13]
                  simp only [Option.bind_some]
                  exact hh
                · rw [if_neg g11] at hh; cases hh
            · rw [if_neg g8] at hh; cases hh
          · rw [if_neg c2] at hh ⊢
            obtain ⟨r8, hr8, hh⟩ := Option.bind_eq_some_iff.mp hh
            rw [hr8]
            simp only [Option.bind_some]
            by_cases g8 : gob L r8 13 = true
            · rw [if_pos g8] at hh
              rw [if_pos (gob_app g8)]
              obtain ⟨v10, hv10, hh⟩ := Option.bind_eq_some_iff.mp hh
              rw [ih r8 S v10 hv10]
              simp only [Option.bind_some]
              by_cases cv : v10 = 0
              · rw [if_pos cv] at hh ⊢
                obtain ⟨r11, hr11, hh⟩ := Option.bind_eq_some_iff.mp hh
                rw [hr11]
                simp only [Option.bind_some]
                by_cases g11 : gob L r11 13 = true
                · rw [if_pos g11] at hh
                  rw [if_pos (gob_app g11)]
                  obtain ⟨v13, hv13, hh⟩ := Option.bind_eq_some_iff.mp hh
                  rw [ih r11 S v13 hv13]
                  simp only [Option.bind_some]
                  exact hh
                · rw [if_neg g11] at hh; cases hh
              · rw [if_neg cv] at hh ⊢; exact hh
            · rw [if_neg g8] at hh; cases hh
    · rw [if_neg hg] at hh; cases hh
theorem sSat_row {w w' : Nat → Int32} (h : rowF w w') (hr : ruleOk w) (S : Nat) : sSat w' S = sSat w S := by
  obtain ⟨c, hc, h54, -⟩ := hr
  unfold sSat
  rw [h 54 (by decide) (by decide), h54, zn_zi (by omega), cRun_row h c 0 [] (by omega)]
theorem lawTells_row {w w' : Nat → Int32} {d : Nat → Int32} (h : rowF w w') (hl : lawTells w d) : lawTells w' d := by
  intro v h1 h2 h3
  exact hl v (fun x hx => (h1 x hx).trans (h x (by omega) (by omega))) (h2.trans (h 58 (by decide) (by decide))) h3
/-- cells that a LAND doesn't own, by their layout -/
theorem not_own {L : ZY} {t b n c x y : Nat} (h1 : L[t]? = some (13, 15)) (h2 : L[t + 1]? = some (51, 10)) (h3 : L[t + 3]? = some (51, 150)) (h4 : ∀ p, p < n → L[b + p]? = some (0, 7)) (hc : L[c]? = some (x, y)) (hx : (x, y) ≠ (13, 15) ∧ (x, y) ≠ (51, 10) ∧ (x, y) ≠ (51, 150) ∧ (x, y) ≠ (0, 7)) : ¬ ownL t b n c := by
  rintro (rfl | rfl | rfl | ⟨h5, h6⟩)
  · rw [h1] at hc; exact hx.1 (Option.some.inj hc).symm
  · rw [h2] at hc; exact hx.2.1 (Option.some.inj hc).symm
  · rw [h3] at hc; exact hx.2.2.1 (Option.some.inj hc).symm
  · have := h4 (c - b) (by omega)
    rw [show b + (c - b) = c by omega, hc] at this
    exact hx.2.2.2 (Option.some.inj this)
theorem lndO_own {R : ZF} {L : ZY} {t b n c : Nat} (h : lndO R L t) (hb : 148 ≤ b) (hc : ownL t b n c) : 148 ≤ c := by
  obtain ⟨-, -, -, -, -, h⟩ := h
  rcases hc with rfl | rfl | rfl | ⟨h1, h2⟩ <;> omega
theorem landIs_step {M M' : ZI} {R R' : ZF} {L L' : ZY} {t b n k : Nat} {w w' : Nat → Int32} (h : landIs M R L t b w n k) (hk : k ≤ 9) (hrow : rowF w w') (hr : ruleOk w) (hf : hFr (ownL t b n) M R L M' R' L')
    (hO : lndO R' L' t) (hF : lndF M' t w') (hP : lndP M' R' L' t b w' n) (hB : lndB M' R' L' t w') (h11 : R' t 11 = R t 11) (h13 : R' t 13 = R t 13) (h14 : R' t 14 = R t 14) : landIs M' R' L' t b w' n k := by
  obtain ⟨⟨o1, o2, o3, o4, o5, o6⟩, -, ⟨hb, hPo⟩, ⟨a, q, a1, a2, a3, a4⟩, -, hC, hL⟩ := id h
  have own148 : ∀ c, ownL t b n c → 148 ≤ c := fun c hc => lndO_own h.1 hb hc
  have hno : ∀ c x y, L[c]? = some (x, y) → (x, y) ≠ (13, 15) ∧ (x, y) ≠ (51, 10) ∧ (x, y) ≠ (51, 150) ∧ (x, y) ≠ (0, 7) → ¬ ownL t b n c := fun c x y hc hx => not_own o1 o2 o3 (fun p hp => (hPo p hp).2.1) hc hx
  refine ⟨hO, hF, hP, ⟨a, q, a1, h11.trans a2, hFr_lay hf a3, fun i hi => ?_⟩, hB, ?_, ?_⟩
  · obtain ⟨g1, g2, g3, g4⟩ := a4 i hi
    have e1 := hf.2 a (lay_le a3) (hno a _ _ a3 (by refine ⟨by simp, ?_, ?_, by simp⟩ <;> (intro hh; cases hh; omega)))
    have e2 := hf.2 (q i) (lay_le g3) (hno _ _ _ g3 (by decide))
    refine ⟨g1, by rw [e1.2]; exact g2, hFr_lay hf g3, fun f hff => ?_⟩
    rw [e2.1, g4 f hff]
    exact (hrow _ (by omega) (by omega)).symm
  · unfold lndC at hC ⊢
    rw [h13]
    cases hd : R t 13 with
    | none =>
      rw [hd] at hC
      intro S hS
      rw [sSat_row hrow hr]
      exact hC S hS
    | some r =>
      rw [hd] at hC
      obtain ⟨⟨X, hX⟩, -⟩ := id hf
      refine ⟨by rw [hX]; exact gob_app hC.1, hC.2.1, fun S hS => ?_⟩
      rw [sSat_row hrow hr]
      exact rule_fr hf.1 (fun c nn hc => hf.2 c (lay_le hc) (hno c _ _ hc (by simp))) (zgood_fr hf own148) _ _ _ _ (hC.2.2 S hS)
  · unfold lndL at hL ⊢
    rw [h14]
    cases hd : R t 14 with
    | none =>
      rw [hd] at hL
      simp only at hL ⊢
      rw [hrow 58 (by decide) (by decide)]
      exact hL
    | some d =>
      rw [hd] at hL
      obtain ⟨l1, l2, l3, l4⟩ := hL
      refine ⟨hFr_lay hf l1, l2, l3, ?_⟩
      have hd : ¬ ownL t b n d := by
        rintro (rfl | rfl | rfl | ⟨h5, h6⟩)
        · rw [o1] at l1; cases l1
        · rw [o2] at l1; cases l1
        · rw [o3] at l1; cases l1
        · omega
      rw [(hf.2 d (lay_le l1) hd).1]
      exact lawTells_row hrow l4
/-- another LAND's cells are kept -/
theorem landIs_other {M M' : ZI} {R R' : ZF} {L L' : ZY} {t b u bu n k : Nat} {w : Nat → Int32} (h : landIs M R L u bu w n k) (hk : k ≤ 9) (hT : lndO R L t) (hb : 148 ≤ b) (hP : ∀ p, p < n → L[b + p]? = some (0, 7)) (hf : hFr (ownL t b n) M R L M' R' L') (hu : u ≠ t) (hd : bu + n ≤ b ∨ b + n ≤ bu) (hl : ∀ d, R u 14 = some d → d < b ∨ b + n ≤ d) : landIs M' R' L' u bu w n k := by
  obtain ⟨⟨u1, u2, u3, u4, u5, u6⟩, ⟨f0, f1, f2, f3, f4, f5, f6, f7, f8, f9⟩, ⟨hbu, hPu⟩, ⟨a, q, a1, a2, a3, a4⟩, hB, hC, hL⟩ := id h
  obtain ⟨o1, o2, o3, o4, o5, o6⟩ := id hT
  have own148 : ∀ c, ownL t b n c → 148 ≤ c := fun c hc => lndO_own hT hb hc
  have hno : ∀ c x y, L[c]? = some (x, y) → (x, y) ≠ (13, 15) ∧ (x, y) ≠ (51, 10) ∧ (x, y) ≠ (51, 150) ∧ (x, y) ≠ (0, 7) → ¬ ownL t b n c := fun c x y hc hx => not_own o1 o2 o3 hP hc hx
  have n0 : ¬ ownL t b n u := by
    rintro (rfl | rfl | rfl | ⟨h5, h6⟩)
    · exact hu rfl
    · rw [o2] at u1; cases u1
    · rw [o3] at u1; cases u1
    · have := hP (u - b) (by omega)
      rw [show b + (u - b) = u by omega, u1] at this; cases this
  have n1 : ¬ ownL t b n (u + 1) := by
    rintro (h5 | h5 | h5 | ⟨h5, h6⟩)
    · rw [h5, o1] at u2; cases u2
    · omega
    · rw [h5, o3] at u2; cases u2
    · have := hP (u + 1 - b) (by omega)
      rw [show b + (u + 1 - b) = u + 1 by omega, u2] at this; cases this
  have n3 : ¬ ownL t b n (u + 3) := by
    rintro (h5 | h5 | h5 | ⟨h5, h6⟩)
    · rw [h5, o1] at u3; cases u3
    · rw [h5, o2] at u3; cases u3
    · omega
    · have := hP (u + 3 - b) (by omega)
      rw [show b + (u + 3 - b) = u + 3 by omega, u3] at this; cases this
  obtain ⟨e1, e2⟩ := hf.2 u (lay_le u1) n0
  obtain ⟨e3, e4⟩ := hf.2 (u + 1) (lay_le u2) n1
  obtain ⟨e5, e6⟩ := hf.2 (u + 3) (lay_le u3) n3
  refine ⟨⟨hFr_lay hf u1, hFr_lay hf u2, hFr_lay hf u3, by rw [e2]; exact u4, by rw [e2]; exact u5, u6⟩, by unfold lndF; rw [e1]; exact ⟨f0, f1, f2, f3, f4, f5, f6, f7, f8, f9⟩, ⟨hbu, fun p hp => ?_⟩, ⟨a, q, a1, by rw [e2]; exact a2, hFr_lay hf a3, fun i hi => ?_⟩, fun i hi => ?_, ?_, ?_⟩
  · obtain ⟨p1, p2, p3⟩ := hPu p hp
    have np : ¬ ownL t b n (bu + p) := by
      rintro (h5 | h5 | h5 | ⟨h5, h6⟩)
      · rw [h5, o1] at p2; cases p2
      · rw [h5, o2] at p2; cases p2
      · rw [h5, o3] at p2; cases p2
      · omega
    obtain ⟨g1, g2⟩ := hf.2 (bu + p) (lay_le p2) np
    refine ⟨by rw [e4]; exact p1, hFr_lay hf p2, ?_⟩
    unfold lndQ
    rw [g1]
    exact p3
  · obtain ⟨g1, g2, g3, g4⟩ := a4 i hi
    have e1 := hf.2 a (lay_le a3) (hno a _ _ a3 (by refine ⟨by simp, ?_, ?_, by simp⟩ <;> (intro hh; cases hh; omega)))
    have e2 := hf.2 (q i) (lay_le g3) (hno _ _ _ g3 (by decide))
    exact ⟨g1, by rw [e1.2]; exact g2, hFr_lay hf g3, fun f hff => by rw [e2.1, g4 f hff]⟩
  · obtain ⟨r, r1, r2, r3, r4⟩ := hB i hi
    have e7 := hf.2 r (lay_le r3) (hno _ _ _ r3 (by decide))
    exact ⟨r, r1, by rw [e6]; exact r2, hFr_lay hf r3, fun f hff => by rw [e7.1, r4 f hff]⟩
  · unfold lndC at hC ⊢
    rw [e2]
    cases hd : R u 13 with
    | none =>
      rw [hd] at hC
      exact hC
    | some r =>
      rw [hd] at hC
      obtain ⟨⟨X, hX⟩, -⟩ := id hf
      exact ⟨by rw [hX]; exact gob_app hC.1, hC.2.1, fun S hS => rule_fr hf.1 (fun c nn hc => hf.2 c (lay_le hc) (hno c _ _ hc (by simp))) (zgood_fr hf own148) _ _ _ _ (hC.2.2 S hS)⟩
  · unfold lndL at hL ⊢
    rw [e2]
    cases hd : R u 14 with
    | none =>
      rw [hd] at hL
      exact hL
    | some d =>
      rw [hd] at hL
      obtain ⟨l1, l2, l3, l4⟩ := hL
      have hdn : ¬ ownL t b n d := by
        rintro (rfl | rfl | rfl | ⟨h5, h6⟩)
        · rw [o1] at l1; cases l1
        · rw [o2] at l1; cases l1
        · rw [o3] at l1; cases l1
        · have := hl d hd; omega
      refine ⟨hFr_lay hf l1, l2, l3, ?_⟩
      rw [(hf.2 d (lay_le l1) hdn).1]
      exact l4
