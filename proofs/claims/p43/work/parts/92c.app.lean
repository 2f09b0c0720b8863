-- ===== a text put behind =====
theorem strIs_fr {own : Nat → Prop} {M M' : ZI} {R R' : ZF} {L L' : ZY} {a v : Nat} {xs : List Int32} (h : strIs M R L a v xs) (hf : hFr own M R L M' R' L') (h1 : a < 1000000 → ¬ own a) (h2 : v < 1000000 → ¬ own v) : strIs M' R' L' a v xs := by
  obtain ⟨s1, s2, s3, s4, s5, s6, s7, s8, s9, s10, s11⟩ := h
  obtain ⟨⟨X, rfl⟩, hc⟩ := hf
  have ha : a < 1000000 → a < L.length ∧ gob L a 12 = true := fun hlt => by
    unfold gos at s1
    rw [if_pos hlt] at s1
    obtain ⟨-, n, h⟩ := gob_sp s1
    exact ⟨lay_le h, s1⟩
  have hv : v < 1000000 → L[v]? = some (50, xs.length) := fun hlt => by
    unfold gbk at s4
    unfold gbl at s6
    rw [if_pos hlt] at s4 s6
    obtain ⟨-, h⟩ := gak_sp s4
    rw [s6] at h
    exact h
  refine ⟨?_, ?_, ?_, ?_, s5, ?_, fun i hi => ?_, s8, s9, s10, s11⟩
  · unfold gos at s1 ⊢
    by_cases hlt : a < 1000000
    · rw [if_pos hlt] at s1 ⊢
      exact gob_app s1
    · rw [if_neg hlt] at s1 ⊢
      exact s1
  · unfold gsI at s2 ⊢
    by_cases hlt : a < 1000000
    · rw [if_pos hlt] at s2 ⊢
      rw [(hc a (ha hlt).1 (h1 hlt)).1]
      exact s2
    · rw [if_neg hlt]
  · unfold gsR at s3 ⊢
    by_cases hlt : a < 1000000
    · rw [if_pos hlt] at s3 ⊢
      rw [(hc a (ha hlt).1 (h1 hlt)).2]
      exact s3
    · rw [if_neg hlt] at s3 ⊢
      exact s3
  · unfold gbk at s4 ⊢
    by_cases hlt : v < 1000000
    · rw [if_pos hlt]
      exact gak_of (lay_app (hv hlt)) hlt
    · rw [if_neg hlt] at s4 ⊢
      exact s4
  · unfold gbl at s6 ⊢
    by_cases hlt : v < 1000000
    · rw [if_pos hlt]
      exact gln_of (lay_app (hv hlt))
    · rw [if_neg hlt] at s6 ⊢
      exact s6
  · have := s7 i hi
    unfold gbI at this ⊢
    by_cases hlt : v < 1000000
    · rw [if_pos hlt] at this ⊢
      rw [(hc v (lay_le (hv hlt)) (h2 hlt)).1]
      exact this
    · rw [if_neg hlt] at this ⊢
      exact this
theorem sbIs_fr {own : Nat → Prop} {M M' : ZI} {R R' : ZF} {L L' : ZY} {s v cap : Nat} {bs : List Int32} (h : sbIs M R L s v cap bs) (hf : hFr own M R L M' R' L') (h1 : ¬ own s) (h2 : ¬ own v) : sbIs M' R' L' s v cap bs := by
  obtain ⟨a1, a2, a3, a4, a5, a6, a7, a8, a9, a10, a11⟩ := h
  obtain ⟨e1, e2⟩ := hf.2 s (lay_le a1) h1
  obtain ⟨e3, e4⟩ := hf.2 v (lay_le a4) h2
  exact ⟨hFr_lay hf a1, a2, by rw [e2]; exact a3, hFr_lay hf a4, a5, by rw [e1]; exact a6, by rw [e1]; exact a7, a8, a9, fun i hi => by rw [e3]; exact a10 i hi, fun i hi => by rw [e3]; exact a11 i hi⟩
theorem sb_append {M : ZI} {R : ZF} {L : ZY} {s v cap a av : Nat} {bs xs : List Int32} (h : sbIs M R L s v cap bs) (hx : strIs M R L a av xs) (hne : av ≠ v) (hlen : bs.length + xs.length ≤ 1000) (hL : L.length ≤ 800000) :
    ∃ M' R' L' v' cap', g128_append s a M R L = some (s, M', R', L') ∧ sbIs M' R' L' s v' cap' (bs ++ xs) ∧ hFr (fun c => c = s ∨ c = v) M R L M' R' L' ∧ (v' = v ∨ v' = L.length) ∧ (∃ X, L' = L ++ X ∧ X.length ≤ 1 ∧ (X.map Prod.snd).sum ≤ 2 * (bs.length + xs.length)) := by
  obtain ⟨h1, h2, h3, h4, h5, h6, h7, h8, h9, h10, h11⟩ := id h
  have sl := lay_le h1
  have vl := lay_le h4
  have go : gob L s 11 = true := gob_of h1 (by omega)
  obtain ⟨M1, R1, L1, v1, c1, g1, g2, g3, g4, g5, ⟨X, g6, g7, g8⟩⟩ := sb_grow (m := bs.length + xs.length) h hlen hL
  obtain ⟨k1, k2, k3, k4, k5, k6, k7, k8, k9, k10, k11⟩ := id g2
  have hL1 : L1.length ≤ 900000 := by rw [g6]; simp; omega
  have alt : a < 1000000 → L[a]? ≠ some (14, 4) := fun hlt he => by
    have := hx.1
    unfold gos at this
    rw [if_pos hlt] at this
    obtain ⟨-, n, hh⟩ := gob_sp this
    rw [he] at hh
    cases hh
  have avl : av < 1000000 → L[av]? = some (50, xs.length) := fun hlt => by
    have q1 := hx.2.2.2.1
    have q2 := hx.2.2.2.2.2.1
    unfold gbk at q1
    unfold gbl at q2
    rw [if_pos hlt] at q1 q2
    obtain ⟨-, hh⟩ := gak_sp q1
    rw [q2] at hh
    exact hh
  have hx1 : strIs M1 R1 L1 a av xs := strIs_fr hx g4 (fun hlt he => alt hlt (by rw [he]; exact h1)) (fun hlt he => by have := avl hlt; rw [he, h1] at this; cases this)
  have avne : av ≠ v1 := by
    rcases g5 with e | e
    · rw [e]; exact hne
    · intro he
      have := lay_le (avl (by omega))
      omega
  have go1 : gob L1 s 11 = true := gob_of k1 (by have := lay_le k1; omega)
  obtain ⟨x1, x2, x3, x4, x5, x6, x7, x8, x9, x10, x11⟩ := id hx1
  have vl1 := lay_le k4
  have sv : s ≠ v1 := by intro he; rw [← he, k1] at k4; cases k4
  unfold g128_append
  rw [if_pos go]
  unfold g129_append
  rw [if_pos hx.1, str_length hx]
  simp only [Option.bind_some]
  rw [if_pos go, h7, zn_add, g1]
  simp only [Option.bind_some]
  rw [if_pos go1]
  -- the bytes
  have hcp : gcp M1 L1 av 0 v1 (znn bs.length) (znn xs.length) = true := by
    by_cases hlt : av < 1000000
    · have hav1 : L1[av]? = some (50, xs.length) := by rw [g6]; exact lay_app (avl hlt)
      refine gcp_of (s := 0) (d := bs.length) hav1 k4 hL1 (by omega) (by omega) (by omega) rfl (by omega) (fun i hi => ?_)
      have := x7 i hi
      unfold gbI at this
      rw [if_pos hlt] at this
      rw [this]
      obtain ⟨k, hk, e⟩ := x8 _ (getD_mem hi)
      rw [e]
      exact zft_asc hk
    · obtain ⟨y1, y2⟩ := x11.resolve_left hlt
      unfold gbl at x6
      rw [if_neg hlt] at x6
      have n1 : ¬ znn 0 < 0 := by decide
      have n2 : ¬ znn bs.length < 0 := by rw [zl0, zn_lt (by omega) (by omega)]; omega
      have n3 : ¬ znn xs.length < 0 := by rw [zl0, zn_lt (by omega) (by omega)]; omega
      unfold gcp
      rw [gak_of k4 (by omega), gln_of k4, zn_zi (by omega), zn_zi (by omega), if_neg hlt, x6]
      simp [n2, n3, y1, y2, zi_l0]
      omega
  have e130 : g130_putStringAt s (znn bs.length) a M1 R1 L1 = some (gcy M1 v1 av 0 (znn bs.length) (znn xs.length), R1, L1) := by
    unfold g130_putStringAt g131_inflateIfNeededFor g132_getBytes
    rw [if_pos go1, if_neg (by decide), if_pos go1, if_pos x1, str_coder hx1]
    simp only [Option.bind_some]
    rw [if_pos k6]
    simp only [Option.bind_some]
    rw [if_pos go1, k3]
    simp only [Option.bind_some]
    rw [if_pos x1, if_pos x1, str_coder hx1, k6]
    simp only [Option.bind_some, if_true]
    rw [x3]
    simp only [Option.bind_some]
    rw [if_pos x4, x6, zshl0, show Int32.ofNat xs.length = znn xs.length from rfl, if_pos hcp]
    rfl
  rw [k7, e130]
  simp only [Option.bind_some]
  have e3 : gcy M1 v1 av 0 (znn bs.length) (znn xs.length) s 3 = znn bs.length := by
    simp only [gcy, zwF_ap, if_neg sv]
    exact k7
  rw [if_pos go1, e3, zn_add]
  simp only [zlet, Option.bind_some]
  have hbs : (bs ++ xs).length = bs.length + xs.length := by simp
  have src : ∀ j, j < xs.length → gsrc M1 av j = xs.getD j 0 := fun j hj => by
    have := x7 j hj
    unfold gbI at this
    unfold gsrc
    by_cases hlt : av < 1000000
    · rw [if_pos hlt] at this ⊢
      exact this
    · rw [if_neg hlt] at this ⊢
      exact this
  refine ⟨_, R1, L1, v1, c1, rfl, ⟨k1, h2, k3, k4, k5, ?_, ?_, by rw [hbs]; exact g3, k9, fun i hi => ?_, fun i hi => ?_⟩, ⟨g4.1, fun c hc ho => ?_⟩, g5, ⟨X, g6, g7, g8⟩⟩
  · simp only [zs_ap, upd_ap, gcy, zwF_ap, if_neg sv, if_true]
    exact k6
  · rw [hbs]
    simp only [zs_ap, upd_ap, if_true]
  · rw [hbs] at hi
    simp only [zs_ap, gcy, zwF_ap, if_neg (Ne.symm sv), if_true, va_cpy, zi_l0, zn_zi (show bs.length < 2147483648 by omega), zn_zi (show xs.length < 2147483648 by omega)]
    rw [List.getD_eq_getElem?_getD]
    by_cases hib : i < bs.length
    · rw [if_neg (by omega), List.getElem?_append_left hib, ← List.getD_eq_getElem?_getD]
      exact k10 i hib
    · rw [if_pos (by omega), List.getElem?_append_right (by omega), ← List.getD_eq_getElem?_getD, Nat.zero_add]
      exact src _ (by omega)
  · simp only [zs_ap, gcy, zwF_ap, if_neg (Ne.symm sv), if_true, va_cpy, zi_l0, zn_zi (show bs.length < 2147483648 by omega), zn_zi (show xs.length < 2147483648 by omega)]
    split
    · rename_i hh
      rw [Nat.zero_add, src _ (by omega)]
      obtain ⟨k, hk, e⟩ := x8 _ (getD_mem (show i - bs.length < xs.length by omega))
      rw [e]
      exact zft_asc hk
    · exact k11 i hi
  · have cs : c ≠ s := fun he => ho (Or.inl he)
    have cv : c ≠ v1 := by
      rcases g5 with e | e
      · rw [e]; exact fun he => ho (Or.inr he)
      · rw [e]; omega
    obtain ⟨q1, q2⟩ := g4.2 c hc cs
    simp only [zs_ap, gcy, zwF_ap, if_neg cs, if_neg cv]
    exact ⟨q1, q2⟩
