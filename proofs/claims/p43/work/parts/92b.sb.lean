-- ===== BUILDERS of texts =====
theorem zmax_z2 {a b : Nat} (ha : a < 2147483648) (hb : b < 2147483648) : zmax (znn a) (znn b) = znn (max a b) := by
  unfold zmax
  by_cases h : a < b
  · rw [if_pos ((zn_lt ha hb).mpr h), Nat.max_eq_right (by omega)]
  · rw [if_neg (by rw [zn_lt ha hb]; exact h), Nat.max_eq_left (by omega)]
theorem gfit_of {M : ZI} {v n : Nat} (h : ∀ i, i < n → zft (M v i) = true) : gfit M v 0 n = true := by
  unfold gfit
  rw [List.all_eq_true]
  intro i hi
  rw [Nat.zero_add]
  exact h i (List.mem_range.mp hi)
theorem gcp_of {M : ZI} {L : ZY} {b a nb na s d n : Nat} (hb : L[b]? = some (50, nb)) (ha : L[a]? = some (50, na)) (hL : L.length ≤ 900000) (h1 : s + n ≤ nb) (h2 : d + n ≤ na) (hn : n < 1000000) (hs : s = 0) (hd : d < 1000000) (hf : ∀ i, i < n → zft (M b i) = true) : gcp M L b (znn s) a (znn d) (znn n) = true := by
  subst hs
  have lb := lay_lt hb hL
  unfold gcp
  rw [zn_zi (by omega), zn_zi (by omega), zn_zi (by omega), if_pos lb, gak_of ha (lay_lt ha hL), gak_of hb lb, gln_of ha, gln_of hb, gfit_of hf]
  have n1 : ¬ znn 0 < 0 := by decide
  have n2 : ¬ znn d < 0 := by rw [zl0, zn_lt (by omega) (by omega)]; omega
  have n3 : ¬ znn n < 0 := by rw [zl0, zn_lt (by omega) (by omega)]; omega
  simp [n1, n2, n3]
  omega
theorem sb_new {M : ZI} {R : ZF} {L : ZY} {s : Nat} (hs : L[s]? = some (14, 4)) (hs1 : 148 ≤ s) (h3 : M s 3 = 0) (hL : L.length ≤ 800000) (hL2 : 148 ≤ L.length) :
    ∃ M' R', g117_init s M R L = some (M', R', L ++ [(50, 16)]) ∧ sbIs M' R' (L ++ [(50, 16)]) s L.length 16 [] ∧ hFr (fun c => c = s) M R L M' R' (L ++ [(50, 16)]) := by
  have sl := lay_le hs
  have g1 : gin s = true := Nat.blt_eq.mpr (by omega)
  have g2 : gnn 16 = true := by decide
  have g3 : gfr L = true := gfr_of (by omega)
  have g4 : gob (L ++ [(50, 16)]) s 11 = true := gob_app (gob_of hs (by omega))
  have g5 : gin L.length = true := Nat.blt_eq.mpr (by omega)
  have z16 : zi (16 : Int32) = 16 := rfl
  unfold g117_init g118_init
  rw [if_pos g1, if_pos g1, if_neg (by decide), if_pos g2, if_pos g3]
  simp only [gnew, z16, g4, g5, zlet, if_true, Option.bind_some]
  have sL : s ≠ L.length := by omega
  refine ⟨_, _, rfl, ⟨lay_app hs, hs1, ?_, lay_new, by omega, ?_, ?_, by simp, by decide, fun i hi => absurd hi (by simp), fun i hi => ?_⟩, ⟨⟨_, rfl⟩, fun c hc ho => ?_⟩⟩
  · simp only [zr_ap, zwF_ap, if_true]
  · simp only [zs_ap, upd_ap, if_true]
  · simp only [zs_ap, upd_ap, zwF_ap, if_true, if_neg sL]
    exact h3
  · simp only [zs_ap, zwF_ap, if_neg (Ne.symm sL), if_true]
    rfl
  · have : c ≠ L.length := by omega
    simp only [zs_ap, zr_ap, zwF_ap, if_neg ho, if_neg this, and_self]
theorem sb_grow {M : ZI} {R : ZF} {L : ZY} {s v cap m : Nat} {bs : List Int32} (h : sbIs M R L s v cap bs) (hm : m ≤ 1000) (hL : L.length ≤ 800000) :
    ∃ M' R' L' v' cap', g122_ensureCapacityInternal s (znn m) M R L = some (M', R', L') ∧ sbIs M' R' L' s v' cap' bs ∧ m ≤ cap' ∧ hFr (fun c => c = s) M R L M' R' L' ∧ (v' = v ∨ v' = L.length) ∧ (∃ X, L' = L ++ X ∧ X.length ≤ 1 ∧ (X.map Prod.snd).sum ≤ 2 * m) := by
  obtain ⟨h1, h2, h3, h4, h5, h6, h7, h8, h9, h10, h11⟩ := id h
  have sl := lay_le h1
  have vl := lay_le h4
  have go : gob L s 11 = true := gob_of h1 (by omega)
  have gv : gbk L v = true := by unfold gbk; rw [if_pos (by omega)]; exact gak_of h4 (by omega)
  have gl : gbl L v = cap := by unfold gbl; rw [if_pos (by omega)]; exact gln_of h4
  unfold g122_ensureCapacityInternal
  rw [if_pos go, h3]
  simp only [Option.bind_some]
  rw [if_pos gv, gl, h6]
  simp only [zlet, zshr0, zshl0]
  rw [show Int32.ofNat cap = znn cap from rfl]
  by_cases hc : cap < m
  · rw [show znn m - znn cap = znn (m - cap) from zn_sub (by omega), if_pos (show (0 : Int32) < znn (m - cap) by rw [zl0, zn_lt (by omega) (by omega)]; omega)]
    have ec : g123_newCapacity s (znn m) M R L = some (znn (cap + max (m - cap) (cap + 2))) := by
      unfold g123_newCapacity g124_newLength
      rw [if_pos go, h3]
      simp only [Option.bind_some]
      rw [if_pos gv, gl, h6]
      simp only [zlet, zshr0, zshl0]
      rw [show Int32.ofNat cap = znn cap from rfl, show znn m - znn cap = znn (m - cap) from zn_sub (by omega), zl2, zn_add, zmax_z2 (by omega) (by omega), zn_add]
      rw [if_pos (show (0 : Int32) < znn (cap + max (m - cap) (cap + 2)) by rw [zl0, zn_lt (by omega) (by omega)]; omega), if_neg (show ¬ (2147483639 : Int32) < znn (cap + max (m - cap) (cap + 2)) by rw [show (2147483639 : Int32) = znn 2147483639 from rfl, zn_lt (by omega) (by omega)]; omega)]
      simp only [Option.bind_some]
      rw [if_neg (show ¬ znn (cap + max (m - cap) (cap + 2)) = 2147483647 by rw [show (2147483647 : Int32) = znn 2147483647 from rfl, zn_eq (by omega) (by omega)]; omega)]
    rw [ec]
    simp only [Option.bind_some]
    generalize hC : cap + max (m - cap) (cap + 2) = C
    have hC1 : m ≤ C ∧ cap < C ∧ C ≤ 2000 ∧ C ≤ 2 * m := by omega
    have zC : zi (znn C) = C := zn_zi (by omega)
    have gC : gnn (znn C) = true := by
      unfold gnn
      rw [decide_eq_true_eq]
      exact ⟨by rw [zl0, zn_lt (by omega) (by omega)]; omega, by show zi (znn C) ≤ 100000; rw [zC]; omega⟩
    have gf : gfr L = true := gfr_of (by omega)
    have hnew : (L ++ [(50, C)])[L.length]? = some (50, C) := lay_new
    have hL2 : (L ++ [(50, C)]).length ≤ 900000 := by simp; omega
    have gv2 : gbk (L ++ [(50, C)]) v = true := by unfold gbk; rw [if_pos (by omega)]; exact gak_of (lay_app h4) (by omega)
    have gl2 : gbl (L ++ [(50, C)]) v = cap := by unfold gbl; rw [if_pos (by omega)]; exact gln_of (lay_app h4)
    have vL : v ≠ L.length := by omega
    have sL : s ≠ L.length := by omega
    have emin : zmin (znn cap) (znn C) = znn cap := by
      unfold zmin
      rw [if_neg (by rw [zn_lt (by omega) (by omega)]; omega)]
    have hcp : gcp (zw M L.length fun _ => 0) (L ++ [(50, C)]) v 0 L.length 0 (znn cap) = true := gcp_of (s := 0) (d := 0) (lay_app h4) hnew hL2 (by omega) (by omega) (by omega) rfl (by decide) (fun i hi => by rw [zw_ne _ _ vL]; exact h11 i hi)
    have go2 : gob (L ++ [(50, C)]) s 11 = true := gob_app go
    have gi : gin L.length = true := Nat.blt_eq.mpr (by omega)
    unfold g125_copyOf
    rw [if_pos gv, gl, show Int32.ofNat cap = znn cap from rfl, if_neg (show ¬ znn C = znn cap by rw [zn_eq (by omega) (by omega)]; omega), if_pos gC, if_pos gf]
    simp only [gnew, zC, gv2, gl2, if_true]
    rw [show Int32.ofNat cap = znn cap from rfl, emin, if_pos hcp]
    simp only [zlet, Option.bind_some, go2, gi, if_true]
    refine ⟨_, _, _, L.length, C, rfl, ⟨lay_app h1, h2, ?_, hnew, by omega, ?_, ?_, by omega, by omega, fun i hi => ?_, fun i hi => ?_⟩, hC1.1, ⟨⟨_, rfl⟩, fun c hc ho => ?_⟩, Or.inr rfl, ⟨[(50, C)], rfl, by simp, by simp; omega⟩⟩
    · simp only [zr_ap, zwF_ap, if_true]
    · simp only [gcy, zwF_ap, if_neg sL]
      exact h6
    · simp only [gcy, zwF_ap, if_neg sL]
      exact h7
    · simp only [gcy, zwF_ap, if_true, gsrc, if_pos (show v < 1000000 by omega), va_cpy, zi_l0, zn_zi (show cap < 2147483648 by omega), if_neg vL]
      rw [if_pos (by omega), show 0 + (i - 0) = i by omega]
      exact h10 i hi
    · simp only [gcy, zwF_ap, if_true, gsrc, if_pos (show v < 1000000 by omega), va_cpy, zi_l0, zn_zi (show cap < 2147483648 by omega), if_neg vL]
      by_cases hic : i < cap
      · rw [if_pos (by omega), show 0 + (i - 0) = i by omega]
        exact h11 i hic
      · rw [if_neg (by omega)]
        rfl
    · have : c ≠ L.length := by omega
      simp only [gcy, zwF_ap, zr_ap, if_neg ho, if_neg this, and_self]
  · rw [if_neg (show ¬ (0 : Int32) < znn m - znn cap from by
      by_cases he : m = cap
      · subst he; rw [zn_sub (Nat.le_refl _), Nat.sub_self]; decide
      · intro hlt
        have e : znn m - znn cap = -(znn (cap - m)) := by rw [← zn_sub (by omega)]; exact (Int32.neg_sub).symm
        rw [e] at hlt
        have hneg : ∀ q : Nat, 0 < q → q ≤ 5000 → ¬ (0 : Int32) < -(znn q) := by
          intro q q1 q2 hh
          have h3 := Int32.lt_iff_toInt_lt.mp hh
          have h4 : (-(znn q)).toInt = -(q : Int) := by
            rw [Int32.toInt_neg]
            have : (znn q).toInt = (q : Int) := Int32.toInt_ofNat_of_lt (by omega)
            rw [this]
            exact Int.bmod_eq_of_le (by omega) (by omega)
          rw [h4] at h3
          have h5 : (0 : Int32).toInt = 0 := rfl
          omega
        exact hneg (cap - m) (by omega) (by omega) hlt)]
    exact ⟨M, R, L, v, cap, rfl, h, by omega, hFr_refl, Or.inl rfl, ⟨[], by simp, by simp, by simp⟩⟩
