-- ===== a round with a tie =====
theorem round_ti {M B : ZI} {R : ZF} {L : ZY} {r14 m n k Y X Bx a b : Nat} {T Bb : Nat → Nat} {x : Int32} (h : zWS M R L B r14 T Bb m n k Y) (hcp : zCP M R L B T Bb m n k X Bx) (hL : L.length ≤ 480000) (ha : a ≤ n) (hb : b ≤ n) : zRE r14 n Y M R L (fun sc k50 fu x20 => g152_ti sc r14 k50 fu x20 x (znn a) (znn b) X (T m) (znn m) M R L) := by
  obtain ⟨hI, hw, hs⟩ := h
  obtain ⟨a1, a2, a3, a4, a5, a6, a7, a8, a9, a10, a11⟩ := id hw
  have hc := LWx_cur hw
  obtain ⟨⟨o1, o2, o3, o4, o5, o6⟩, hF, ⟨cb, cP⟩, -, -, -, -⟩ := id hc
  have go : gob L (T m) 10 = true := gob_of o1 (by have := lay_le o1; omega)
  have f7 : M (T m) 7 = znn n := hF.2.2.2.2.2.2.2.1.trans a5
  generalize his : (if zshr x 7 &&& 1 = 1 then (1 : Int32) else 0) = is
  have eis : (if zshr x 7 &&& 1 = 1 then some (1 : Int32) else some 0) = some is := by rw [← his]; split <;> rfl
  have hna : (znn a < znn n ↔ a < n) := zn_lt (by omega) (by omega)
  have hnb : (znn b < znn n ↔ b < n) := zn_lt (by omega) (by omega)
  have heq : (znn a = znn b ↔ a = b) := zn_eq (by omega) (by omega)
  -- nothing is done
  have idle : f199_tie (znn a) (znn b) is B = some (0, B) → (if znn a < znn n then (if znn b < znn n then (if znn a = znn b then some (0 : Int32) else (R (T m) 10).bind fun r183 => if gar L r183 51 (znn a) = true then (R r183 (zi (znn a))).bind fun r185 => if gar L r185 0 (6 : Int32) = true then ((if ((zshr (M r185 (zi (6 : Int32))) (znn b)) &&& (1 : Int32)) = (1 : Int32) then some (1 : Int32) else some (0 : Int32)) : Option (Int32)).bind fun v187 => (if v187 = is then some (0 : Int32) else some (1 : Int32)) else none else none) else some (0 : Int32)) else some (0 : Int32)) = some 0 → zRE r14 n Y M R L (fun sc k50 fu x20 => g152_ti sc r14 k50 fu x20 x (znn a) (znn b) X (T m) (znn m) M R L) := fun hr hv => by
    obtain ⟨M1, c1, c2, c3⟩ := call_r (sync_tie (znn a) (znn b) is) hI hr
    obtain ⟨M3, R3, L3, B3, t1, t2, X3, x31, x32, x33⟩ := tail0' (r14 := r14) ⟨c2, LWx_gF hw (gF_call (own := fun _ => False) c3) (fun _ _ _ hh => hh.elim), hs⟩ (by omega)
    refine ⟨M3, R3, L3, B3, T, Bb, m, k, fun sc k50 fu x20 => ?_, zWS_Y t2 (by omega), X3, x31, by omega, by omega⟩
    show g152_ti sc r14 k50 fu x20 x (znn a) (znn b) X (T m) (znn m) M R L = _
    unfold g152_ti
    rw [eis]
    simp only [Option.bind_some]
    rw [if_pos go, f7, hv]
    simp only [Option.bind_some]
    rw [if_pos a1, c1]
    simp only [Option.bind_some]
    rw [if_pos trivial, if_pos trivial]
    exact t1 sc k50 fu x20 X
  by_cases hcond : ¬ (a < n ∧ b < n ∧ a ≠ b)
  · refine idle (tie_none a2 a5 ha hb hcond) ?_
    by_cases h1 : a < n
    · rw [if_pos (hna.mpr h1)]
      by_cases h2 : b < n
      · have : a = b := Classical.byContradiction fun hh => hcond ⟨h1, h2, hh⟩
        rw [if_pos (hnb.mpr h2), if_pos (heq.mpr this)]
      · rw [if_neg (fun hh => h2 (hnb.mp hh))]
    · rw [if_neg (fun hh => h1 (hna.mp hh))]
  · obtain ⟨h1, h2, h3⟩ := Classical.byContradiction hcond
    obtain ⟨sa, hsa, ea, -⟩ := Inv2_ties hI a5 a2 h1
    obtain ⟨pa1, pa2, pa3⟩ := cP a h1
    obtain ⟨pb1, pb2, pb3⟩ := cP b h2
    have qa : M (Bb m + a) 6 = B 149 (7 + a) := pa3.2.2.2.2.2.2
    have qb : M (Bb m + b) 6 = B 149 (7 + b) := pb3.2.2.2.2.2.2
    have ga : gar L (T m + 1) 51 (znn a) = true := gar10 o2 (by omega) (by omega)
    have gb : gar L (T m + 1) 51 (znn b) = true := gar10 o2 (by omega) (by omega)
    have gra : gar L (Bb m + a) 0 6 = true := gar7 (j := 6) pa2 (by omega) (by decide)
    have grb : gar L (Bb m + b) 0 6 = true := gar7 (j := 6) pb2 (by omega) (by decide)
    have hbit : (if (zshr (M (Bb m + a) (zi 6)) (znn b) &&& 1) = 1 then some (1 : Int32) else some 0) = some (if sa.testBit b = true then 1 else 0) := by
      rw [show zi (6 : Int32) = 6 from rfl, qa, ea, zbit (by omega) (by omega)]
      by_cases hh : sa.testBit b = true
      · rw [if_pos hh, if_pos rfl]
      · rw [if_neg hh, if_neg (by decide)]
    have hv : (if znn a < znn n then (if znn b < znn n then (if znn a = znn b then some (0 : Int32) else (R (T m) 10).bind fun r183 => if gar L r183 51 (znn a) = true then (R r183 (zi (znn a))).bind fun r185 => if gar L r185 0 (6 : Int32) = true then ((if ((zshr (M r185 (zi (6 : Int32))) (znn b)) &&& (1 : Int32)) = (1 : Int32) then some (1 : Int32) else some (0 : Int32)) : Option (Int32)).bind fun v187 => (if v187 = is then some (0 : Int32) else some (1 : Int32)) else none else none) else some (0 : Int32)) else some (0 : Int32)) = if (if sa.testBit b = true then (1 : Int32) else 0) = is then some 0 else some 1 := by
      rw [if_pos (hna.mpr h1), if_pos (hnb.mpr h2), if_neg (fun hh => h3 (heq.mp hh)), o4]
      simp only [Option.bind_some]
      rw [if_pos ga, zn_zi (by omega), pa1]
      simp only [Option.bind_some]
      rw [if_pos gra, hbit]
      rfl
    obtain ⟨t1, t2⟩ := tie_r (is := is) a2 a5 h1 h2 h3 ea hsa
    by_cases hb2 : (if sa.testBit b = true then (1 : Int32) else 0) = is
    · exact idle (t1 hb2) (by rw [hv, if_pos hb2])
    · obtain ⟨B1, m', k1, k2, k3⟩ := t2 hb2 m a4 a8
      obtain ⟨M1, c1, c2, c3⟩ := call_r (sync_tie (znn a) (znn b) is) hI k1
      let M2 : ZI := zs M1 (Bb m + a) 6 ((M1 (Bb m + a) 6) ^^^ (zshl (1 : Int32) (znn b)))
      let M3 : ZI := zs M2 (Bb m + b) 6 ((M2 (Bb m + b) 6) ^^^ (zshl (1 : Int32) (znn a)))
      have hM3o : ∀ y, ¬ ownR (Bb m) n y → M3 y = M1 y := fun y hy => by
        have n1 : y ≠ Bb m + a := fun he => hy ⟨by omega, by omega⟩
        have n2 : y ≠ Bb m + b := fun he => hy ⟨by omega, by omega⟩
        show zs (zs M1 (Bb m + a) 6 _) (Bb m + b) 6 _ y = _
        rw [zs_ap, if_neg n2, zs_ap, if_neg n1]
      have hrow : ∀ p j, p < n → M3 (Bb m + p) j = if j = 6 then B1 149 (7 + p) else M (Bb m + p) j := fun p j hp => by
        have e0 : ∀ j, M1 (Bb m + p) j = M (Bb m + p) j := fun j => by rw [c3 _ (by omega)]
        have ma : M1 (Bb m + a) 6 = B 149 (7 + a) := by rw [c3 _ (by omega)]; exact qa
        have mb : (zs M1 (Bb m + a) 6 ((M1 (Bb m + a) 6) ^^^ (zshl (1 : Int32) (znn b)))) (Bb m + b) 6 = B 149 (7 + b) := by rw [zs_df (by omega), c3 _ (by omega)]; exact qb
        show zs (zs M1 (Bb m + a) 6 ((M1 (Bb m + a) 6) ^^^ (zshl (1 : Int32) (znn b)))) (Bb m + b) 6 (((zs M1 (Bb m + a) 6 ((M1 (Bb m + a) 6) ^^^ (zshl (1 : Int32) (znn b)))) (Bb m + b) 6) ^^^ (zshl (1 : Int32) (znn a))) (Bb m + p) j = _
        rw [mb, ma, k3 (7 + p)]
        by_cases hpb : p = b
        · subst hpb
          rw [zs_sm]
          by_cases hj : j = 6
          · rw [if_pos hj, if_pos hj, if_neg (show ¬ 7 + p = 7 + a by omega), if_pos rfl]
          · rw [if_neg hj, if_neg hj, zs_df (by omega), e0]
        · rw [zs_df (by omega)]
          by_cases hpa : p = a
          · subst hpa
            rw [zs_sm]
            by_cases hj : j = 6
            · rw [if_pos hj, if_pos hj, if_pos rfl]
            · rw [if_neg hj, if_neg hj, e0]
          · rw [zs_df (by omega), e0]
            by_cases hj : j = 6
            · rw [if_pos hj, hj, if_neg (show ¬ 7 + p = 7 + a by omega), if_neg (show ¬ 7 + p = 7 + b by omega)]; exact (cP p hp).2.2.2.2.2.2.2.2
            · rw [if_neg hj]
      have hcols : ∀ j, ¬ (7 ≤ j ∧ j < 7 + n) → B1 149 j = B 149 j := fun j hj => by rw [k3, if_neg (by omega), if_neg (by omega)]
      have hM : ∀ c, 148 ≤ c → ¬ ownR (Bb m) n c → M3 c = M c := fun c q1 q2 => by rw [hM3o c q2, c3 c q1]
      have hcur : landIs M3 R L (T m) (Bb m) (B1 149) n k := landIs_ties hc a2 a3 a1 (Inv2_rule hI) hM hrow hcols
      have hg : gF (own2 (T m) (Bb m) n) M R L M3 R L := ⟨⟨[], by simp⟩, fun c q1 _ hh => ⟨hM c q1 (fun q => hh (Or.inr q)), rfl⟩, fun _ _ => rfl⟩
      have hw2 := keep_op hw hcp (Inv2_rule hI) k2 hg hcur (fun y hy => hcols y (by omega)) (hcols 5 (by omega)) (hcols 0 (by omega))
      have hI3 : Inv2 M3 B1 := Inv2_of c2 (fun o ho => hM3o o (fun hh => by have := hh.1; omega)) (fun _ _ => rfl)
      obtain ⟨M4, R4, L4, B4, u1, u2, X4, x41, x42, x43⟩ := tail1 (r14 := r14) hI3 hw2 a4 k2.1 hs hcp.1.1.1 (fun j hj => (a9 j (by omega)).1.1.1) (by omega)
      have hTm : pushT m m' T X m' = T m := if_pos rfl
      refine ⟨M4, R4, L4, B4, _, _, m', k, fun sc k50 fu x20 => ?_, zWS_Y u2 (by omega), X4, x41, by omega, by omega⟩
      show g152_ti sc r14 k50 fu x20 x (znn a) (znn b) X (T m) (znn m) M R L = _
      unfold g152_ti
      rw [eis]
      simp only [Option.bind_some]
      rw [if_pos go, f7, hv, if_neg hb2]
      simp only [Option.bind_some]
      rw [if_pos a1, c1]
      simp only [Option.bind_some]
      rw [if_pos trivial, if_neg (show ¬ (1 : Int32) = 0 by decide), o4]
      simp only [Option.bind_some]
      rw [if_pos ga, zn_zi (show a < 2147483648 by omega), pa1]
      simp only [Option.bind_some, zlet]
      rw [if_pos gra, if_pos gb, zn_zi (show b < 2147483648 by omega), pb1]
      simp only [Option.bind_some]
      rw [if_pos grb, show zi (6 : Int32) = 6 from rfl, hTm]
      exact u1 sc k50 fu x20
