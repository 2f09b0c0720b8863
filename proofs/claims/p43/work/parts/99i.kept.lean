-- ===== rounds that are kept: sittings and ties =====
theorem own2_gF {M M' : ZI} {R R' : ZF} {L L' : ZY} {t b n : Nat} (h : gF (own2 t b n) M R L M' R' L') : gF (ownL t b n) M R L M' R' L' := gF_wide h (fun _ _ hh => own2_L hh)
theorem keep_op {M M2 : ZI} {R : ZF} {L : ZY} {B B1 : ZI} {T Bb : Nat → Nat} {m m' n k Y X Bx : Nat} (hw : LWx M R L B T Bb m n k Y) (hcp : zCP M R L B T Bb m n k X Bx) (hr : ruleOk (B 149)) (hk : kpt B B1 m m') (hg : gF (own2 (T m) (Bb m) n) M R L M2 R L) (hcur : landIs M2 R L (T m) (Bb m) (B1 149) n k) (cols : ∀ x, 48 ≤ x → B1 149 x = B 149 x) (h5 : B1 149 5 = B 149 5) (h0 : B1 149 0 = B 149 0) : LWx M2 R L B1 (pushT m m' T X) (pushT m m' Bb Bx) m' n k Y := by
  obtain ⟨f2, hrows, h14⟩ := hcp
  let Bk : ZI := zw B1 149 (B 149)
  have e149 : Bk 149 = B 149 := zw_self _ _ _
  have hko : ∀ o, o ≠ 149 → Bk o = B1 o := fun o ho => zw_ne _ _ ho
  have hk2 : kpt B Bk m m' := kpt_149 hk hko
  have h3 : LWx M R L Bk (pushT m m' T X) (pushT m m' Bb Bx) m' n k Y := LWx_push hw f2 hrows h14 hk2 e149
  have hTm : pushT m m' T X m' = T m := if_pos rfl
  have hBm : pushT m m' Bb Bx m' = Bb m := if_pos rfl
  obtain ⟨a1, a2, a3, a4, a5, a6, a7, a8, a9, a10, a11⟩ := id hw
  obtain ⟨-, -, ⟨l, hl, el⟩, y, hy, ey⟩ := a9 m (Nat.le_refl _)
  rw [rwW_m] at el ey
  refine LWx_op h3 (by rw [e149]; exact hr) (by rw [hTm, hBm]; exact own2_gF hg) (by rw [hTm, hBm]; exact hcur) rfl (hko 151 (by decide)).symm (by rw [hko 148 (by decide)]) (by rw [hko 148 (by decide)]) (fun x q1 _ => by rw [e149]; exact cols x q1) ⟨l, hl, by rw [h5]; exact el⟩ (by rw [e149, h5]; exact Nat.le_refl _) (fun i f _ _ => by rw [e149]; exact cols _ (by omega)) ⟨y, hy, by rw [h0]; exact ey⟩ (Nat.le_refl _)
theorem round_si {M B : ZI} {R : ZF} {L : ZY} {r14 m n k Y X Bx : Nat} {T Bb : Nat → Nat} {x v55 v56 : Int32} (h : zWS M R L B r14 T Bb m n k Y) (hcp : zCP M R L B T Bb m n k X Bx) (hL : L.length ≤ 480000) : zRE r14 n Y M R L (fun sc k50 fu x20 => g152_si sc r14 k50 fu x20 x v55 v56 X (T m) (znn m) M R L) := by
  obtain ⟨hI, hw, hs⟩ := h
  obtain ⟨a1, a2, a3, a4, a5, a6, a7, a8, a9, a10, a11⟩ := id hw
  have hc := LWx_cur hw
  have o1 := hc.1.1
  have go : gob L (T m) 10 = true := gob_of o1 (by have := lay_le o1; omega)
  have t148 := hc.1.2.2.2.2.2
  generalize hu : bw (zshr x 4) 13 = u
  have hu13 : u < 13 := by rw [← hu]; exact bw_lt _ (by decide)
  have eb : g115_between (zshr x 4) 0 12 = some (znn u) := by rw [← hu]; exact btw0 (hi := 12) _ (by decide)
  by_cases h0 : u = 0
  · subst h0
    obtain ⟨M1, c1, c2, c3⟩ := call_r (sync_sit 0) hI (sit_none (B := B))
    obtain ⟨M3, R3, L3, B3, t1, t2, X3, x31, x32, x33⟩ := tail0' (r14 := r14) ⟨c2, LWx_gF hw (gF_call (own := fun _ => False) c3) (fun _ _ _ hh => hh.elim), hs⟩ (by omega)
    refine ⟨M3, R3, L3, B3, T, Bb, m, k, fun sc k50 fu x20 => ?_, zWS_Y t2 (by omega), X3, x31, by omega, by omega⟩
    show g152_si sc r14 k50 fu x20 x v55 v56 X (T m) (znn m) M R L = _
    unfold g152_si
    rw [eb]
    simp only [Option.bind_some]
    rw [if_neg (show ¬ (0 : Int32) < znn 0 by decide)]
    simp only [Option.bind_some]
    rw [if_pos trivial]
    simp only [Option.bind_some]
    rw [if_pos a1, show f22_sit (znn 0) M = some (-1, M1) from c1]
    simp only [Option.bind_some]
    rw [if_pos trivial]
    simp only [Option.bind_some]
    rw [if_pos trivial]
    exact t1 sc k50 fu x20 X
  · obtain ⟨B1, m', s1, s2, s3⟩ := sit_r (B := B) (u := u) (by omega) (by omega) a4 a8
    have e2 : M (T m) 2 = B 149 1 := hc.2.1.2.2.1
    let M1 : ZI := zs M (T m) 2 (zmin 24 (M (T m) 2 + znn u))
    have hI1 : Inv2 M1 B := Inv2_of hI (fun o ho => by show zs M (T m) 2 _ o = _; rw [zs_ap, if_neg (by omega)]) (fun _ _ => rfl)
    obtain ⟨M2, c1, c2, c3⟩ := call_r (sync_sit (znn u)) hI1 s1
    have hcur : landIs M2 R L (T m) (Bb m) (B1 149) n k := by
      have := landIs_put (what := 0) (a := 0) (v := zmin 24 (B 149 1 + znn u)) (w' := B1 149) hc a2 a3 a1 (Inv2_rule hI) (by decide) (fun hh => absurd hh (by decide)) (by decide) s3
      refine landIs_cls this (fun o ho => ?_) a1
      rw [c3 o ho]
      show zs M (T m) 2 (zmin 24 (M (T m) 2 + znn u)) o = zs M (T m) 2 (zmin 24 (B 149 1 + znn u)) o
      rw [e2]
    have hg : gF (own2 (T m) (Bb m) n) M R L M2 R L := ⟨⟨[], by simp⟩, fun c q1 _ hh => ⟨by
      rw [c3 c q1]
      show zs M (T m) 2 _ c = _
      rw [zs_ap, if_neg (fun he => hh (Or.inl he))], rfl⟩, fun _ _ => rfl⟩
    have hw2 := keep_op hw hcp (Inv2_rule hI) s2 hg hcur (fun x hx => by rw [s3, if_neg (by omega)]) (by rw [s3, if_neg (by decide)]) (by rw [s3, if_neg (by decide)])
    obtain ⟨M3, R3, L3, B3, t1, t2, X3, x31, x32, x33⟩ := tail1 (r14 := r14) c2 hw2 a4 s2.1 hs hcp.1.1.1 (fun j hj => (a9 j (by omega)).1.1.1) (by omega)
    refine ⟨M3, R3, L3, B3, _, _, m', k, fun sc k50 fu x20 => ?_, zWS_Y t2 (by omega), X3, x31, by omega, by omega⟩
    show g152_si sc r14 k50 fu x20 x v55 v56 X (T m) (znn m) M R L = _
    have hpos : (0 : Int32) < znn u := by rw [zl0, zn_lt (by decide) (by omega)]; omega
    have e2' : M2 (T m) 2 = zmin 24 (B 149 1 + znn u) := by
      rw [c3 _ t148]
      show zs M (T m) 2 (zmin 24 (M (T m) 2 + znn u)) (T m) 2 = _
      rw [zs_sm, if_pos rfl, e2]
    have hTm : pushT m m' T X m' = T m := if_pos rfl
    unfold g152_si
    rw [eb]
    simp only [Option.bind_some]
    rw [if_pos hpos]
    simp only [Option.bind_some]
    rw [if_neg (show ¬ (1 : Int32) = 0 by decide), if_pos go, zlet_e]
    simp only [Option.bind_some]
    rw [if_pos a1, show f22_sit (znn u) (zs M (T m) 2 (zmin 24 (M (T m) 2 + znn u))) = some (zmin 24 (B 149 1 + znn u), M2) from c1]
    simp only [Option.bind_some]
    rw [if_neg (show ¬ (1 : Int32) = 0 by decide), if_pos go]
    simp only [Option.bind_some]
    rw [if_pos e2'.symm, hTm]
    exact t1 sc k50 fu x20
