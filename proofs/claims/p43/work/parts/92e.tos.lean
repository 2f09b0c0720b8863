-- ===== a builder's text =====
theorem sb_toString {M : ZI} {R : ZF} {L : ZY} {s v cap : Nat} {bs : List Int32} (h : sbIs M R L s v cap bs) (hasc : ∀ x ∈ bs, ∃ k, k < 128 ∧ x = znn k) (hlen : bs.length ≤ 1000) (hL : L.length ≤ 700000) :
    ∃ M' R', g133_toString s M R L = some (L.length, M', R', L ++ [(15, 4), (50, bs.length)]) ∧ strIs M' R' (L ++ [(15, 4), (50, bs.length)]) L.length (L.length + 1) bs ∧ hFr (fun _ => False) M R L M' R' (L ++ [(15, 4), (50, bs.length)]) := by
  obtain ⟨h1, h2, h3, h4, h5, h6, h7, h8, h9, h10, h11⟩ := id h
  have sl := lay_le h1
  have vl := lay_le h4
  have sL : s ≠ L.length := by omega
  have vL : v ≠ L.length := by omega
  have g1 : gfr L = true := gfr_of (by omega)
  have g2 : gin L.length = true := Nat.blt_eq.mpr (by omega)
  have gs : gob (L ++ [(15, 4)]) s 11 = true := gob_app (gob_of h1 (by omega))
  have hnew : (L ++ [(15, 4)])[L.length]? = some (15, 4) := lay_new
  have go : gob (L ++ [(15, 4)]) L.length 12 = true := gob_of hnew (by omega)
  have v4 : (L ++ [(15, 4)])[v]? = some (50, cap) := lay_app h4
  have gk : gak (L ++ [(15, 4)]) v 50 = true := gak_of v4 (by omega)
  have gv : gbk (L ++ [(15, 4)]) v = true := by unfold gbk; rw [if_pos (by omega)]; exact gk
  have gl : gbl (L ++ [(15, 4)]) v = cap := by unfold gbl; rw [if_pos (by omega)]; exact gln_of v4
  have Ll : (L ++ [(15, 4)]).length = L.length + 1 := by simp
  have gf2 : gfr (L ++ [(15, 4)]) = true := gfr_of (by rw [Ll]; omega)
  have Lc : L ++ [(15, 4)] ++ [(50, bs.length)] = L ++ [(15, 4), (50, bs.length)] := by rw [List.append_assoc]; rfl
  -- the copy of the bytes
  have cp : ∀ M1 : ZI, (∀ c, c ≠ L.length → M1 c = M c) → ∃ M2, g140_copyOfRange v 0 (znn bs.length) M1 (zw R L.length fun _ => none) (L ++ [(15, 4)]) = some (L.length + 1, M2, zw (zw R L.length fun _ => none) (L.length + 1) (fun _ => none), L ++ [(15, 4), (50, bs.length)]) ∧ (∀ c, c ≠ L.length + 1 → M2 c = M1 c) ∧ ∀ i, i < bs.length → M2 (L.length + 1) i = bs.getD i 0 := by
    intro M1 hM1
    have hfitv : ∀ i, i < cap → zft (M1 v i) = true := fun i hi => by rw [hM1 v vL]; exact h11 i hi
    unfold g140_copyOfRange
    simp only [zlet]
    rw [if_pos trivial, if_pos gv, gl, show Int32.ofNat cap = znn cap from rfl]
    by_cases hc : bs.length = cap
    · have gfit1 : gfit M1 v 0 (gln (L ++ [(15, 4)]) v) = true := by rw [gln_of v4]; exact gfit_of hfitv
      have hn2 : (L ++ [(15, 4)] ++ [(50, cap)])[L.length + 1]? = some (50, cap) := by rw [← Ll]; exact lay_new
      have gk2 : gak (L ++ [(15, 4)] ++ [(50, cap)]) (L.length + 1) 50 = true := gak_of hn2 (by omega)
      rw [if_pos (show znn bs.length = znn cap by rw [hc]), if_pos gk, if_pos gfit1, if_pos gf2]
      simp only [gcln, Ll, gln_of v4]
      rw [if_pos gk2]
      refine ⟨zw M1 (L.length + 1) (M1 v), by rw [← hc, Lc], fun c hcc => zw_ne _ _ hcc, fun i hi => ?_⟩
      rw [zw_self, hM1 v vL]
      exact h10 i hi
    · have zl : zi (znn bs.length) = bs.length := zn_zi (by omega)
      have gn : gnn (znn bs.length) = true := by
        unfold gnn
        rw [decide_eq_true_eq]
        exact ⟨by rw [zl0, zn_lt (by omega) (by omega)]; omega, by show zi (znn bs.length) ≤ 100000; rw [zl]; omega⟩
      have hn2 : (L ++ [(15, 4)] ++ [(50, bs.length)])[L.length + 1]? = some (50, bs.length) := by rw [← Ll]; exact lay_new
      have hL2 : (L ++ [(15, 4)] ++ [(50, bs.length)]).length ≤ 900000 := by simp; omega
      have gv2 : gbk (L ++ [(15, 4)] ++ [(50, bs.length)]) v = true := by unfold gbk; rw [if_pos (by omega)]; exact gak_of (lay_app v4) (by omega)
      have gl2 : gbl (L ++ [(15, 4)] ++ [(50, bs.length)]) v = cap := by unfold gbl; rw [if_pos (by omega)]; exact gln_of (lay_app v4)
      have vL2 : v ≠ L.length + 1 := by omega
      have emin : zmin (znn cap) (znn bs.length) = znn bs.length := by
        unfold zmin
        rw [if_pos (by rw [zn_lt (by omega) (by omega)]; omega)]
      have hcp : gcp (zw M1 (L.length + 1) fun _ => 0) (L ++ [(15, 4)] ++ [(50, bs.length)]) v 0 (L.length + 1) 0 (znn bs.length) = true := gcp_of (s := 0) (d := 0) (lay_app v4) hn2 hL2 (by omega) (by omega) (by omega) rfl (by decide) (fun i hi => by rw [zw_ne _ _ vL2]; exact hfitv i (by omega))
      rw [if_neg (show ¬ znn bs.length = znn cap by rw [zn_eq (by omega) (by omega)]; exact hc)]
      unfold g141_copyOfRangeByte g142_checkLength
      rw [if_neg (show ¬ znn bs.length < 0 by rw [zl0, zn_lt (by omega) (by omega)]; omega)]
      simp only [Option.bind_some, zlet]
      rw [show znn bs.length - 0 = znn bs.length by rw [zl0, zn_sub (by omega)]; rfl, if_pos gn, if_pos gf2]
      simp only [gnew, Ll, zl]
      rw [if_pos gv2, gl2, show Int32.ofNat cap - 0 = znn cap by rw [zl0]; exact zn_sub (by omega), emin, if_pos hcp]
      simp only [Option.bind_some]
      refine ⟨_, by rw [Lc], fun c hcc => ?_, fun i hi => ?_⟩
      · simp only [gcy, zwF_ap, if_neg hcc]
      · simp only [gcy, zwF_ap, if_true, gsrc, if_pos (show v < 1000000 by omega), va_cpy, zi_l0, zl, if_neg vL2]
        rw [if_pos (by omega), show 0 + (i - 0) = i by omega, hM1 v vL]
        exact h10 i hi
  obtain ⟨M2, c1, c2, c3⟩ := cp (zs (zw M L.length fun _ => 0) L.length 1 0) (fun c hc => by rw [zs_df hc, zw_ne _ _ hc])
  have e3 : (zw R L.length fun _ => none) s 0 = some v := by rw [zw_ne _ _ sL]; exact h3
  have e7 : (zw M L.length fun _ => 0) s 3 = znn bs.length := by rw [zw_ne _ _ sL]; exact h7
  have e6 : (zw M L.length fun _ => 0) s 1 = 0 := by rw [zw_ne _ _ sL]; exact h6
  have k0 : (L ++ [(15, 4), (50, bs.length)])[L.length]? = some (15, 4) := by rw [← Lc]; exact lay_app hnew
  have k1 : (L ++ [(15, 4), (50, bs.length)])[L.length + 1]? = some (50, bs.length) := by rw [← Lc, ← Ll]; exact lay_new
  have go2 : gob (L ++ [(15, 4), (50, bs.length)]) L.length 12 = true := gob_of k0 (by omega)
  have gi1 : gin (L.length + 1) = true := Nat.blt_eq.mpr (by omega)
  unfold g133_toString
  rw [if_pos g1]
  simp only [gnew]
  rw [if_pos g2]
  unfold g134_init g135_init g136_getValue g137_length g139_length g126_isLatin1
  rw [if_pos g2, if_pos g2, if_pos gs, if_pos gs, e3]
  simp only [Option.bind_some]
  rw [if_pos gs, if_pos gs, e7]
  simp only [Option.bind_some]
  rw [if_neg (by decide), if_pos gs, if_pos e6]
  simp only [Option.bind_some]
  rw [if_neg (by decide), if_pos go]
  simp only [zlet]
  rw [c1]
  simp only [Option.bind_some]
  rw [if_pos go2, if_pos gi1]
  simp only [Option.bind_some]
  have L1L : L.length + 1 ≠ L.length := by omega
  have LL1 : L.length ≠ L.length + 1 := by omega
  refine ⟨M2, _, rfl, ⟨?_, ?_, ?_, ?_, fun _ => by omega, ?_, fun i hi => ?_, hasc, hlen, fun _ => by omega, Or.inl (by omega)⟩, ⟨⟨_, rfl⟩, fun c hc _ => ?_⟩⟩
  · unfold gos; rw [if_pos (by omega)]; exact go2
  · unfold gsI; rw [if_pos (by omega), c2 _ LL1, zs_sm, if_pos rfl]
  · unfold gsR; rw [if_pos (by omega)]; simp only [zr_ap, zwF_ap, if_true]
  · unfold gbk; rw [if_pos (by omega)]; exact gak_of k1 (by omega)
  · unfold gbl; rw [if_pos (by omega)]; exact gln_of k1
  · unfold gbI; rw [if_pos (by omega)]; exact c3 i hi
  · have q1 : c ≠ L.length := by omega
    have q2 : c ≠ L.length + 1 := by omega
    rw [c2 c q2, zs_df q1, zw_ne _ _ q1]
    simp only [zr_ap, zwF_ap, if_neg q1, if_neg q2, and_self]
