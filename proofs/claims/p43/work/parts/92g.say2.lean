def bt (xs : List Int32) (i : Nat) : Nat := if i < xs.length then zi (xs.getD i 0) else 32
theorem bt_lt {xs : List Int32} (hasc : ∀ x ∈ xs, ∃ k, k < 128 ∧ x = znn k) (i : Nat) : bt xs i < 128 := by
  unfold bt
  split
  · rename_i h
    obtain ⟨k, hk, e⟩ := hasc _ (getD_mem h)
    rw [e, zn_zi (by omega)]
    exact hk
  · decide
theorem bt_eq {xs : List Int32} (hasc : ∀ x ∈ xs, ∃ k, k < 128 ∧ x = znn k) {i : Nat} (h : i < xs.length) : xs.getD i 0 = znn (bt xs i) := by
  unfold bt
  rw [if_pos h]
  obtain ⟨k, hk, e⟩ := hasc _ (getD_mem h)
  rw [e, zn_zi (by omega)]
theorem div4 {i : Nat} (hi : i < 20) : znn i / (4 : Int32) = znn (i / 4) := by
  have : ∀ q : Fin 20, znn q.val / (4 : Int32) = znn (q.val / 4) := by decide +kernel
  exact this ⟨i, hi⟩
theorem say_word {M : ZI} {R : ZF} {L : ZY} {a av r at0 : Nat} {xs : List Int32} (h : strIs M R L a av xs) (hr : L[r]? = some (0, 5)) (hL : L.length ≤ 900000) (h0 : ∀ j, j < 5 → M r j = 0) (hat : at0 ≤ 1000) :
    ∃ M', g145_l17 a (znn at0) r zfu 0 M R L = some (M', R, L) ∧ (∀ j, j < 5 → M' r j = znn (part4 (fun i => bt xs (at0 + i)) j 4)) ∧ ∀ c, c ≠ r → M' c = M c := by
  have hasc := h.2.2.2.2.2.2.2.1
  have hlen := h.2.2.2.2.2.2.2.2.1
  have ra : r ≠ a := by
    intro he
    have := h.1
    unfold gos at this
    rw [if_pos (by rw [← he]; exact lay_lt hr hL)] at this
    obtain ⟨-, n, hh⟩ := gob_sp this
    rw [← he, hr] at hh
    cases hh
  have rv : r ≠ av := by
    intro he
    have := h.2.2.2.1
    unfold gbk at this
    rw [if_pos (by rw [← he]; exact lay_lt hr hL)] at this
    obtain ⟨-, hh⟩ := gak_sp this
    rw [← he, hr] at hh
    cases hh
  have hstr : ∀ M1 : ZI, (∀ c, c ≠ r → M1 c = M c) → strIs M1 R L a av xs := fun M1 h1 => strIs_fr (own := fun c => c = r) h ⟨⟨[], by simp⟩, fun c _ ho => ⟨h1 c ho, rfl⟩⟩ (fun _ he => ra he.symm) (fun _ he => rv he.symm)
  obtain ⟨⟨m, r', y⟩, h1, h2, h3, h4, h5⟩ := zloop (fun fu (x : ZI × ZF × ZY) c => g145_l17 a (znn at0) r fu c x.1 x.2.1 x.2.2) 20 (fun i x => x.2.1 = R ∧ x.2.2 = L ∧ (∀ c, c ≠ r → x.1 c = M c) ∧ ∀ j, j < 5 → x.1 r j = znn (part4 (fun i => bt xs (at0 + i)) j (min 4 (i - 4 * j))))
    (fun x => x.2.1 = R ∧ x.2.2 = L ∧ (∀ c, c ≠ r → x.1 c = M c) ∧ ∀ j, j < 5 → x.1 r j = znn (part4 (fun i => bt xs (at0 + i)) j 4)) (fun fu i x hi hx => by
      obtain ⟨m, r', y⟩ := x
      obtain ⟨q1, q2, q3, q4⟩ := hx
      simp only at q1 q2 q3 q4
      subst q1; subst q2
      left
      have hs := hstr m q3
      have hj : i / 4 < 5 := by omega
      have gr : gar y r 0 (znn (i / 4)) = true := gar_of hr (lay_lt hr hL) hj (by decide)
      have zj : zi (znn (i / 4)) = i / 4 := zn_zi (by omega)
      have hm : min 4 (i - 4 * (i / 4)) = i % 4 := by omega
      have e0 := q4 (i / 4) hj
      rw [hm] at e0
      have hb : ∀ k, bt xs (at0 + k) < 128 := fun k => bt_lt hasc _
      have hp : part4 (fun i => bt xs (at0 + i)) (i / 4) (i % 4) < 8388608 := part4_lt hb _ (by omega)
      have hstep : part4 (fun i => bt xs (at0 + i)) (i / 4) (i % 4) * 256 + bt xs (at0 + i) = part4 (fun i => bt xs (at0 + i)) (i / 4) (i % 4 + 1) := by
        simp only [part4]
        rw [show 4 * (i / 4) + i % 4 = i by omega]
      have hv : zshl (m r (i / 4)) 8 ||| znn (bt xs (at0 + i)) = znn (part4 (fun i => bt xs (at0 + i)) (i / 4) (i % 4 + 1)) := by
        rw [e0, sh8 hp (by have := hb i; omega), hstep]
      refine ⟨(zs m r (i / 4) (znn (part4 (fun i => bt xs (at0 + i)) (i / 4) (i % 4 + 1))), r', y), ⟨rfl, rfl, fun c hc => ?_, fun j hj5 => ?_⟩, ?_⟩
      · simp only
        rw [zs_df hc]
        exact q3 c hc
      · simp only
        rw [zs_sm]
        by_cases hji : j = i / 4
        · rw [if_pos hji, hji]
          congr 2
          omega
        · rw [if_neg hji, q4 j hj5]
          congr 2
          omega
      · simp only [g145_l17]
        rw [if_pos (show znn i < 20 by rw [zl20, zn_lt (by omega) (by omega)]; exact hi), div4 hi, if_pos gr, if_pos hs.1, str_length hs]
        simp only [Option.bind_some]
        rw [zn_add]
        by_cases hlt : at0 + i < xs.length
        · rw [if_pos ((zn_lt (by omega) (by omega)).mpr hlt), str_charAt hs hlt]
          simp only [Option.bind_some]
          rw [if_pos gr, zj, bt_eq hasc hlt, hv, zadd1]
          rfl
        · have e32 : (32 : Int32) = znn (bt xs (at0 + i)) := by
            unfold bt
            rw [if_neg hlt]
            rfl
          rw [if_neg (by rw [zn_lt (by omega) (by omega)]; exact hlt), zj, e32, hv, zadd1]
          rfl) (fun fu x hx => by
      obtain ⟨m, r', y⟩ := x
      obtain ⟨q1, q2, q3, q4⟩ := hx
      refine ⟨(m, r', y), ⟨q1, q2, q3, fun j hj => ?_⟩, ?_⟩
      · rw [q4 j hj]
        congr 2
        omega
      · simp only [g145_l17]
        rw [if_neg (by decide)]) zfu 0 (M, R, L) (by omega) (by rw [zfu_eq]; omega) ⟨rfl, rfl, fun _ _ => rfl, fun j hj => by rw [Nat.zero_sub, Nat.min_zero]; exact h0 j hj⟩
  simp only at h2 h3 h4 h5
  subst h2; subst h3
  exact ⟨m, h1, h5, h4⟩
