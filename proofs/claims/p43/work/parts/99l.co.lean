-- ===== a round with a council =====
theorem land148 {R : ZF} {L : ZY} {c nn : Nat} (hz : zgood R L = true) (hc : L[c]? = some (13, nn)) : 148 ≤ c := by
  apply Classical.byContradiction
  intro hlt
  have h1 : zHc[c]? = some (13, nn) := by
    simp only [zgood, Bool.and_eq_true, decide_eq_true_eq] at hz
    rw [← hz.1, List.getElem?_take_of_lt (by omega)]
    exact hc
  have h2 : ∀ q ∈ zHc, q.1 ≠ 13 := by decide +kernel
  exact h2 _ (List.mem_of_getElem? h1) rfl
theorem lndC_move {M : ZI} {R R2 : ZF} {L : ZY} {t u : Nat} {w w' : Nat → Int32} (h : lndC M R L t w) (he : R2 u 13 = R t 13) (hR : ∀ c nn, L[c]? = some (16, nn) → R2 c = R c) (hz : zgood R2 L = true) (hs : ∀ S, sSat w' S = sSat w S) : lndC M R2 L u w' := by
  unfold lndC at h ⊢
  rw [he]
  cases hd : R t 13 with
  | none =>
    rw [hd] at h
    intro S hS
    rw [hs]
    exact h S hS
  | some r =>
    rw [hd] at h
    refine ⟨h.1, h.2.1, fun S hS => ?_⟩
    rw [hs]
    exact rule_fr ⟨[], by simp⟩ (fun c nn hc => ⟨rfl, hR c nn hc⟩) (fun _ => hz) _ _ _ _ (h.2.2 S hS)
theorem round_co {M B : ZI} {R : ZF} {L : ZY} {r14 m n k Y X : Nat} {T Bb : Nat → Nat} {x v55 v56 : Int32} (h : zWS M R L B r14 T Bb m n k Y) (hL : L.length ≤ 480000) : zRE r14 n Y M R L (fun sc k50 fu x20 => g152_co sc r14 k50 fu x20 x v55 v56 X (T m) (znn m) M R L) := by
  obtain ⟨hI, hw, hs⟩ := h
  obtain ⟨a1, a2, a3, a4, a5, a6, a7, a8, a9, a10, a11⟩ := id hw
  have hc := LWx_cur hw
  have o1 := hc.1.1
  have t148 := hc.1.2.2.2.2.2
  obtain ⟨M1, R1, L1, B1, e1, e2, e3, e4, ⟨b1, b2, b3, b4⟩, e6, e7, x1⟩ := council_ok x hI hc a1 (by omega) a5 a2 a3 a7
  have hz1 := zgood_gF e4 a1
  obtain ⟨X1, x11, x12, x13⟩ := id x1
  have hl1 : L1.length ≤ L.length + 200 := by rw [x11]; simp; omega
  have o1' := gF_lay e4 o1
  have hs1 : SH R1 L1 r14 T m := SH_gF hs e4 (fun he => by have := hs.1; rw [he, o1] at this; cases this)
  have hT1 : ∀ j, j < m → L1[T j]? = some (13, 15) := fun j hj => gF_lay e4 (a9 j (by omega)).1.1.1
  have hgio : gio (R1 (T m) 13) = true := by
    have hC := e3.2.2.2.2.2.1
    unfold lndC at hC
    cases hd : R1 (T m) 13 with
    | none => rfl
    | some r =>
      rw [hd] at hC
      have := (gob_sp hC.1).1
      exact Nat.blt_eq.mpr (by omega)
  obtain ⟨R2, f1, f2, -, f4, f5⟩ := rules_loop hs1.1 (by omega) o1' hT1 a4 (fun j hj => (a10 j m (by omega) (Nat.le_refl _) (by omega)).1) m 0 zfu R1 (Nat.zero_add _) (by rw [zfu_eq]; omega) hs1.2.2 hgio
  have hRo : ∀ c, L1[c]? ≠ some (13, 15) → R2 c = R1 c := fun c hcc => funext fun j => f2 c j (Or.inl hcc)
  have h16 : ∀ c nn, L1[c]? = some (16, nn) → R2 c = R1 c := fun c nn hcc => hRo c (fun he => by rw [hcc] at he; cases he)
  have hgz : gF (fun c => 148 ≤ c) M1 R1 L1 M1 R2 L1 := ⟨⟨[], by simp⟩, fun c q1 _ hh => absurd q1 hh, fun c hcc => hRo c (fun he => by have := land148 hz1 he; omega)⟩
  have hz2 : zgood R2 L1 = true := zgood_gF hgz hz1
  have hru1 := Inv2_rule e2
  have hpw : ∀ j x, x ≠ 53 → x ≠ 54 → ¬ (162 ≤ x ∧ x < 562) → pastW B1 j x = pastW B j x := fun j x q1 q2 q3 => by
    unfold pastW
    by_cases hx : x < 48
    · rw [if_pos hx, if_pos hx, b1 151 (by decide) (by decide) (by decide) (by decide)]
    · rw [if_neg hx, if_neg hx]; exact b2 x q1 q2 q3
  have hrw5 : ∀ j, rwW B1 m j 5 = rwW B m j 5 ∧ rwW B1 m j 0 = rwW B m j 0 := fun j => by
    have h151 : B1 151 = B 151 := b1 151 (by decide) (by decide) (by decide) (by decide)
    exact ⟨rw_on (b2 5 (by decide) (by decide) (by omega)) (fun _ _ => by rw [h151]), rw_on (b2 0 (by decide) (by decide) (by omega)) (fun _ _ => by rw [h151])⟩
  have hlen : ∀ c, c < L.length → L1[c]? = L[c]? := fun c hcc => by rw [x11, List.getElem?_append_left hcc]
  have hMc : ∀ c, 148 ≤ c → c < L.length → M1 c = M c := fun c q1 q2 => by
    by_cases hct : c = T m
    · rw [hct]; exact e7
    · exact (e4.2.1 c q1 q2 hct).1
  have hRc : ∀ c j, 148 ≤ c → c < L.length → (L[c]? ≠ some (13, 15) ∨ j ≠ 13) → R2 c j = R c j := fun c j q1 q2 q3 => by
    rw [f2 c j (by rw [hlen c q2]; exact q3)]
    by_cases hct : c = T m
    · subst hct
      rcases q3 with q3 | q3
      · exact absurd o1 q3
      · exact e6 j q3
    · rw [(e4.2.1 c q1 q2 hct).2]
  have hR14 : ∀ j, j ≤ m → R2 (T j) 14 = R (T j) 14 := fun j hj => hRc (T j) 14 (a9 j hj).1.1.2.2.2.2.2 (lay_le (a9 j hj).1.1.1) (Or.inr (by decide))
  have hLW : LWx M1 R2 L1 B1 T Bb m n k Y := by
    refine ⟨hz2, a2, a3, a4, by rw [b2 48 (by decide) (by decide) (by omega)]; exact a5, by rw [b2 52 (by decide) (by decide) (by omega)]; exact a6, b3, b4.trans a8, fun j hj => ?_, a10, fun i j hi hj => ?_⟩
    · obtain ⟨c1, c2, c3, c4⟩ := a9 j hj
      refine ⟨?_, by rw [hR14 j hj, hR14 m (Nat.le_refl _)]; exact c2, by rw [(hrw5 j).1]; exact c3, by rw [(hrw5 j).2]; exact c4⟩
      by_cases hjm : j = m
      · subst hjm
        rw [rwW_m]
        exact landIs_rule hc a2 a3 ⟨X1, x11⟩ hMc hRc b2 (lndC_move e3.2.2.2.2.2.1 (by rw [f5]) h16 hz2 (fun _ => rfl))
      · have hlt : j < m := by omega
        rw [rwW_lt hlt] at c1 ⊢
        exact landIs_rule c1 a2 a3 ⟨X1, x11⟩ hMc hRc (hpw j) (lndC_move e3.2.2.2.2.2.1 (f4 j (Nat.zero_le _) hlt) h16 hz2 (fun S => sSat_row (past_rowF B1 j) hru1 S))
    · rw [(hrw5 i).1, (hrw5 j).1]
      exact a11 i j hi hj
  have hs2 : SH R2 L1 r14 T m := ⟨hs1.1, hs1.2.1, fun j hj => by
    rw [hRo r14 (fun he => by have := hs1.1; rw [he] at this; cases this)]
    exact hs1.2.2 j hj⟩
  obtain ⟨M3, R3, L3, B3, t1, t2, x3⟩ := tail0' (r14 := r14) ⟨e2, hLW, hs2⟩ (by omega)
  refine ⟨M3, R3, L3, B3, T, Bb, m, k, fun sc k50 fu x20 => ?_, zWS_Y t2 (by omega), ?_⟩
  · show g152_co sc r14 k50 fu x20 x v55 v56 X (T m) (znn m) M R L = _
    unfold g152_co
    rw [e1]
    simp only [Option.bind_some]
    rw [if_neg (show ¬ (1 : Int32) = 0 by decide), show g152_l736 r14 (T m) (znn m) L1 zfu 0 R1 = some R2 from f1]
    simp only [Option.bind_some]
    exact t1 sc k50 fu x20 X
  · obtain ⟨X, z1, z2, z3⟩ := room_add x1 x3
    exact ⟨X, z1, by omega, by omega⟩
