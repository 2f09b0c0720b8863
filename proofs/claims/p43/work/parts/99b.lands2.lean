-- ===== what becomes of the LANDS when one is changed =====
theorem past_rowF (B : ZI) (j : Nat) : rowF (B 149) (pastW B j) := fun x h1 _ => by
  unfold pastW
  rw [if_neg (by omega)]
theorem LWx_op {M M2 : ZI} {R R2 : ZF} {L L2 : ZY} {B B2 : ZI} {T Bb : Nat → Nat} {m n k Y Y2 : Nat} (h : LWx M R L B T Bb m n k Y) (hr : ruleOk (B 149)) (hg : gF (ownL (T m) (Bb m) n) M R L M2 R2 L2) (hcur : landIs M2 R2 L2 (T m) (Bb m) (B2 149) n k) (h14 : R2 (T m) 14 = R (T m) 14) (h151 : B2 151 = B 151) (h4 : B2 148 4 = B 148 4) (h19 : B2 148 19 = B 148 19) (cols : ∀ x, 48 ≤ x → ¬ (578 ≤ x ∧ x < 1178) → B2 149 x = B 149 x) (hl : ∃ l, l ≤ 150 ∧ B2 149 5 = znn l) (hl2 : zi (B 149 5) ≤ zi (B2 149 5)) (hlines : ∀ i f, i < zi (B 149 5) → f < 4 → B2 149 (578 + 4 * i + f) = B 149 (578 + 4 * i + f)) (hy : ∃ y, y ≤ Y2 ∧ B2 149 0 = znn y) (hY : Y ≤ Y2) : LWx M2 R2 L2 B2 T Bb m n k Y2 := by
  obtain ⟨a1, a2, a3, a4, a5, a6, a7, a8, a9, a10, a11⟩ := id h
  have hc := LWx_cur h
  obtain ⟨cO, -, ⟨cb, cP⟩, -, -, -, cL⟩ := id hc
  have e5 : ∀ j, j < m → ∀ x, x < 48 → rwW B2 m j x = rwW B m j x := fun j hj x hx => by
    rw [rwW_lt hj, rwW_lt hj]
    unfold pastW
    rw [if_pos hx, if_pos hx, h151]
  refine ⟨zgood_gF hg a1, a2, a3, a4, by rw [cols 48 (by omega) (by omega)]; exact a5, by rw [cols 52 (by omega) (by omega)]; exact a6, h19.trans a7, h4.trans a8, fun j hj => ?_, a10, fun i j hi hj => ?_⟩
  · by_cases hjm : j = m
    · subst hjm
      rw [rwW_m]
      exact ⟨hcur, rfl, hl, hy⟩
    · have hlt : j < m := by omega
      obtain ⟨b1, b2, b3, y, b4, b5⟩ := a9 j hj
      obtain ⟨d1, d2⟩ := a10 j m hj (Nat.le_refl _) hjm
      have hd : ∀ d, R (T j) 14 = some d → d < Bb m ∨ Bb m + n ≤ d := fun d hd => by
        rw [b2] at hd
        unfold lndL at cL
        rw [hd] at cL
        exact cL.2.2.1
      have o1 := landIs_oth b1 a3 cO cb (fun p hp => (cP p hp).2.1) hg a1 d1 d2 hd
      have hru : ruleOk (rwW B m j) := by rw [rwW_lt hlt]; exact ruleOk_row (past_rowF B j) hr
      have hmon := a11 j m hj (Nat.le_refl _)
      rw [rwW_m] at hmon
      have hpast : ∀ x, 48 ≤ x → rwW B m j x = B 149 x := fun x hx => by
        rw [rwW_lt hlt]; unfold pastW; rw [if_neg (by omega)]
      have hpast2 : ∀ x, 48 ≤ x → rwW B2 m j x = B2 149 x := fun x hx => by
        rw [rwW_lt hlt]; unfold pastW; rw [if_neg (by omega)]
      refine ⟨landIs_w o1 a2 a3 hru (fun x hx => ?_) (fun x hx => ?_) (fun i f hi hf => ?_), ?_, ?_, y, by omega, by rw [e5 j hlt 0 (by decide)]; exact b5⟩
      · by_cases hx48 : x < 48
        · exact e5 j hlt x hx48
        · rw [hpast x (by omega), hpast2 x (by omega)]; exact cols x (by omega) (by omega)
      · rw [hpast x (by omega), hpast2 x (by omega)]; exact cols x (by omega) (by omega)
      · rw [hpast _ (by omega), hpast2 _ (by omega)]; exact hlines i f (by omega) hf
      · have o := b1.1
        have hnt : ¬ ownL (T m) (Bb m) n (T j) := by
          rintro (q | q | q | ⟨q1, q2⟩)
          · exact d1 q
          · have := o.1; rw [q, cO.2.1] at this; cases this
          · have := o.1; rw [q, cO.2.2.1] at this; cases this
          · have := o.1
            have q3 := (cP (T j - Bb m) (by omega)).2.1
            rw [show Bb m + (T j - Bb m) = T j by omega, this] at q3
            cases q3
        rw [(hg.2.1 (T j) o.2.2.2.2.2 (lay_le o.1) hnt).2, h14]
        exact b2
      · obtain ⟨l, l1, l2⟩ := b3
        exact ⟨l, l1, by rw [e5 j hlt 5 (by decide)]; exact l2⟩
  · by_cases hjm : j = m
    · subst hjm
      rw [rwW_m]
      by_cases him : i = j
      · subst him; rw [rwW_m]; exact Nat.le_refl _
      · rw [e5 i (by omega) 5 (by decide)]
        have := a11 i j hi hj
        rw [rwW_m] at this
        omega
    · rw [e5 i (by omega) 5 (by decide), e5 j (by omega) 5 (by decide)]
      exact a11 i j hi hj
/-- all that was kept is let go -/
theorem LWx_reset {M : ZI} {R : ZF} {L : ZY} {B : ZI} {t b n k Y : Nat} (hz : zgood R L = true) (hn : n ≤ 10) (hk : k ≤ 9) (h48 : B 149 48 = znn n) (h52 : B 149 52 = znn k) (h19 : B 148 19 = 0) (h4 : B 148 4 = 0) (hcur : landIs M R L t b (B 149) n k) (hl : ∃ l, l ≤ 150 ∧ B 149 5 = znn l) (hy : ∃ y, y ≤ Y ∧ B 149 0 = znn y) : LWx M R L B (fun _ => t) (fun _ => b) 0 n k Y := by
  have e : ∀ j, j ≤ 0 → rwW B 0 j = B 149 := fun j hj => if_neg (by omega)
  refine ⟨hz, hn, hk, by decide, h48, h52, h19, h4, fun j hj => ?_, fun i j hi hj hij => by omega, fun i j hi hj => ?_⟩
  · rw [e j hj]; exact ⟨hcur, rfl, hl, hy⟩
  · rw [e i (by omega), e j hj]; exact Nat.le_refl _
/-- one call undone -/
theorem LWx_undo {M : ZI} {R : ZF} {L : ZY} {B B2 : ZI} {T Bb : Nat → Nat} {m n k Y : Nat} (h : LWx M R L B T Bb (m + 1) n k Y) (h9 : ∀ x, B2 149 x = if x < 48 then B 151 (48 * m + x) else B 149 x) (h151 : B2 151 = B 151) (h4 : B2 148 4 = znn m) (h19 : B2 148 19 = B 148 19) : LWx M R L B2 T Bb m n k Y := by
  obtain ⟨a1, a2, a3, a4, a5, a6, a7, a8, a9, a10, a11⟩ := h
  have e : ∀ j, j ≤ m → rwW B2 m j = rwW B (m + 1) j := fun j hj => by
    rw [rwW_lt (show j < m + 1 by omega)]
    funext x
    by_cases hjm : j = m
    · subst hjm
      rw [rwW_m, h9]
      rfl
    · rw [rwW_lt (by omega)]
      unfold pastW
      rw [h151, h9]
      by_cases hx : x < 48
      · rw [if_pos hx, if_pos hx]
      · rw [if_neg hx, if_neg hx, if_neg hx]
  refine ⟨a1, a2, a3, by omega, by rw [h9, if_neg (by decide)]; exact a5, by rw [h9, if_neg (by decide)]; exact a6, h19.trans a7, h4, fun j hj => ?_, fun i j hi hj => a10 i j (by omega) (by omega), fun i j hi hj => ?_⟩
  · rw [e j hj]
    obtain ⟨b1, b2, b3, b4⟩ := a9 j (by omega)
    exact ⟨b1, by rw [b2, (a9 m (by omega)).2.1], b3, b4⟩
  · rw [e i (by omega), e j hj]
    exact a11 i j hi (by omega)
