-- ===== a round in which something is set, to its end =====
theorem put_made {β : Type} (J : ZI → Option β) {M1 : ZI} {R : ZF} {L : ZY} {t b n what a : Nat} {v : Int32} (hw : what ≤ 5) (hn : n ≤ 10) (ha : 2 < what → a < n) (ha2 : a ≤ n) (hL : L.length ≤ 900000) (go : gob L t 10 = true) (h10 : R t 10 = some (t + 1)) (h51 : L[t + 1]? = some (51, 10)) (hP : ∀ p, p < n → R (t + 1) p = some (b + p) ∧ L[b + p]? = some (0, 7)) :
    (((if znn what = 0 then if gob L t 10 = true then zlet (zs M1 t 2 v) fun (M153 : ZI) => some M153 else none else some M1) : Option (ZI)).bind fun M154 =>
  ((if znn what = (1 : Int32) then if gob L t 10 = true then zlet (zs M154 t 3 v) fun (M156 : ZI) => some M156 else none else some M154) : Option (ZI)).bind fun M157 =>
  ((if znn what = (2 : Int32) then if gob L t 10 = true then zlet (zs M157 t 4 v) fun (M159 : ZI) => some M159 else none else some M157) : Option (ZI)).bind fun M160 =>
  (if (2 : Int32) < znn what then if gob L t 10 = true then (R t 10).bind fun r162 => if gar L r162 51 (znn a) = true then (R r162 (zi (znn a))).bind fun r164 => (if znn what = (3 : Int32) then if gar L r164 0 (1 : Int32) = true then zlet (zs M160 r164 (zi (1 : Int32)) v) fun (M170 : ZI) => J M170 else none else (if znn what = (4 : Int32) then if gar L r164 0 (2 : Int32) = true then zlet (zs M160 r164 (zi (2 : Int32)) v) fun (M168 : ZI) => J M168 else none else if gar L r164 0 (0 : Int32) = true then zlet (zs M160 r164 (zi (0 : Int32)) v) fun (M166 : ZI) => J M166 else none)) else none else none else J M160)) = J (zs M1 (putC t b what a) (putF what) v) := by
  simp only [zlet, go, if_true]
  rcases (show what = 0 ∨ what = 1 ∨ what = 2 ∨ 3 ≤ what by omega) with rfl | rfl | rfl | h3
  · rfl
  · rfl
  · rfl
  · have han := ha (by omega)
    obtain ⟨p1, p2⟩ := hP a han
    have ga : gar L (t + 1) 51 (znn a) = true := gar10 h51 hL (by omega)
    have g0 : gar L (b + a) 0 0 = true := gar7 (j := 0) p2 hL (by decide)
    have g1 : gar L (b + a) 0 1 = true := gar7 (j := 1) p2 hL (by decide)
    have g2 : gar L (b + a) 0 2 = true := gar7 (j := 2) p2 hL (by decide)
    rcases (show what = 3 ∨ what = 4 ∨ what = 5 by omega) with rfl | rfl | rfl
    · rw [if_neg (by decide)]
      simp only [Option.bind_some]
      rw [if_neg (by decide)]
      simp only [Option.bind_some]
      rw [if_neg (by decide)]
      simp only [Option.bind_some]
      rw [if_pos (by decide), h10]
      simp only [Option.bind_some]
      rw [if_pos ga, zn_zi (show a < 2147483648 by omega), p1]
      simp only [Option.bind_some]
      rw [if_pos (by decide), if_pos g1]
      rfl
    · rw [if_neg (by decide)]
      simp only [Option.bind_some]
      rw [if_neg (by decide)]
      simp only [Option.bind_some]
      rw [if_neg (by decide)]
      simp only [Option.bind_some]
      rw [if_pos (by decide), h10]
      simp only [Option.bind_some]
      rw [if_pos ga, zn_zi (show a < 2147483648 by omega), p1]
      simp only [Option.bind_some]
      rw [if_neg (by decide), if_pos (by decide), if_pos g2]
      rfl
    · rw [if_neg (by decide)]
      simp only [Option.bind_some]
      rw [if_neg (by decide)]
      simp only [Option.bind_some]
      rw [if_neg (by decide)]
      simp only [Option.bind_some]
      rw [if_pos (by decide), h10]
      simp only [Option.bind_some]
      rw [if_pos ga, zn_zi (show a < 2147483648 by omega), p1]
      simp only [Option.bind_some]
      rw [if_neg (by decide), if_neg (by decide), if_pos g0]
      rfl
theorem round_se {M B : ZI} {R : ZF} {L : ZY} {r14 m n k Y X a : Nat} {T Bb : Nat → Nat} {x v56 : Int32} (h : zWS M R L B r14 T Bb m n k Y) (hL : L.length ≤ 480000) (ha : a ≤ n) : zRE r14 n Y M R L (fun sc k50 fu x20 => g152_se sc r14 k50 fu x20 x (znn a) v56 X (T m) (znn m) M R L) := by
  obtain ⟨hI, hw, hs⟩ := h
  obtain ⟨a1, a2, a3, a4, a5, a6, a7, a8, a9, a10, a11⟩ := id hw
  have h148 := zg_len a1
  generalize hwh : bw (zshr x 4) 7 = what
  generalize hv : bw (zshr x 6) 102 = v
  have hwhat : what < 7 := by rw [← hwh]; exact bw_lt _ (by decide)
  have hv102 : v < 102 := by rw [← hv]; exact bw_lt _ (by decide)
  have eb1 : g115_between (zshr x 4) 0 6 = some (znn what) := by rw [← hwh]; exact btw0 (hi := 6) _ (by decide)
  have eb2 : g115_between (zshr x 6) 0 101 = some (znn v) := by rw [← hv]; exact btw0 (hi := 101) _ (by decide)
  let Q := L.length
  let L1 : ZY := L ++ [(0, 7)]
  let M1 : ZI := mosM M Q
  let R1 : ZF := zw R Q fun _ => none
  have hQ1 : L1[Q]? = some (0, 7) := lay_new
  have hL1 : L1.length = L.length + 1 := by simp [L1]
  have hg1 : gF (fun _ => False) M R L M1 R1 L1 := ⟨⟨_, rfl⟩, fun c _ hc _ => ⟨mosM_ne (by show c ≠ L.length; omega), zw_ne _ _ (by show c ≠ L.length; omega)⟩, fun c hc => zw_ne _ _ (by show c ≠ L.length; omega)⟩
  have hw1 : LWx M1 R1 L1 B T Bb m n k Y := LWx_gF hw hg1 (fun _ _ _ hh => hh.elim)
  have hs1 : SH R1 L1 r14 T m := SH_gF hs hg1 (fun hh => hh)
  have hI1 : Inv2 M1 B := Inv2_of hI (fun o ho => mosM_ne (by show o ≠ L.length; omega)) (fun _ _ => rfl)
  have hc1 := LWx_cur hw1
  obtain ⟨⟨o1, o2, o3, o4, o5, o6⟩, hF, ⟨cb, cP⟩, -, -, -, -⟩ := id hc1
  have go : gob L1 (T m) 10 = true := gob_of o1 (by have := lay_le o1; omega)
  have f7 : M1 (T m) 7 = znn n := hF.2.2.2.2.2.2.2.1.trans a5
  have gQ : ∀ j, j < 7 → gar L1 Q 0 (znn j) = true := fun j hj => gar7 hQ1 (by omega) hj
  have hz1 := hw1.1
  -- up to the class's answer
  have head : ∀ sc k50 fu x20 (cc : Int32), (((if (M1 Q what) < znn v then some (0 : Int32) else (if znn what = (2 : Int32) then (if 0 < znn v then (if znn what < (3 : Int32) then some (1 : Int32) else (if znn a < znn n then some (1 : Int32) else some (0 : Int32))) else some (0 : Int32)) else (if znn what < (3 : Int32) then some (1 : Int32) else (if znn a < znn n then some (1 : Int32) else some (0 : Int32))))) : Option (Int32)) = some cc) → ∀ M2, f15_set (znn what) (znn a) (znn v) M1 = some (cc, M2) → g152_se sc r14 k50 fu x20 x (znn a) v56 X (T m) (znn m) M R L = (if cc = 0 then g152_j98 sc r14 k50 fu x20 X (T m) (znn m) 0 M2 R1 L1 else (((if znn what = 0 then if gob L1 (T m) 10 = true then zlet (zs M2 (T m) 2 (znn v)) fun (M153 : ZI) => some M153 else none else some M2) : Option (ZI)).bind fun M154 =>
  ((if znn what = (1 : Int32) then if gob L1 (T m) 10 = true then zlet (zs M154 (T m) 3 (znn v)) fun (M156 : ZI) => some M156 else none else some M154) : Option (ZI)).bind fun M157 =>
  ((if znn what = (2 : Int32) then if gob L1 (T m) 10 = true then zlet (zs M157 (T m) 4 (znn v)) fun (M159 : ZI) => some M159 else none else some M157) : Option (ZI)).bind fun M160 =>
  (if (2 : Int32) < znn what then if gob L1 (T m) 10 = true then (R1 (T m) 10).bind fun r162 => if gar L1 r162 51 (znn a) = true then (R1 r162 (zi (znn a))).bind fun r164 => (if znn what = (3 : Int32) then if gar L1 r164 0 (1 : Int32) = true then zlet (zs M160 r164 (zi (1 : Int32)) (znn v)) fun (M170 : ZI) => g152_j98 sc r14 k50 fu x20 X (T m) (0 : Int32) (0 : Int32) M170 R1 L1 else none else (if znn what = (4 : Int32) then if gar L1 r164 0 (2 : Int32) = true then zlet (zs M160 r164 (zi (2 : Int32)) (znn v)) fun (M168 : ZI) => g152_j98 sc r14 k50 fu x20 X (T m) (0 : Int32) (0 : Int32) M168 R1 L1 else none else if gar L1 r164 0 (0 : Int32) = true then zlet (zs M160 r164 (zi (0 : Int32)) (znn v)) fun (M166 : ZI) => g152_j98 sc r14 k50 fu x20 X (T m) (0 : Int32) (0 : Int32) M166 R1 L1 else none)) else none else none else g152_j98 sc r14 k50 fu x20 X (T m) (0 : Int32) (0 : Int32) M160 R1 L1))) := fun sc k50 fu x20 cc hcc M2 hset => by
    unfold g152_se
    rw [eb1, Option.bind_some, eb2, Option.bind_some, if_pos (show gnn 7 = true by decide), if_pos (show gfr L = true from gfr_of (by omega)), gnew, show L.length = Q from rfl, show L ++ [(0, zi 7)] = L1 from rfl]
    rw [if_pos (show gar L1 Q 0 0 = true from gQ 0 (by decide)), zlet_e, if_pos (show gar L1 Q 0 1 = true from gQ 1 (by decide)), zlet_e, if_pos (show gar L1 Q 0 2 = true from gQ 2 (by decide)), zlet_e, if_pos (show gar L1 Q 0 3 = true from gQ 3 (by decide)), zlet_e, if_pos (show gar L1 Q 0 4 = true from gQ 4 (by decide)), zlet_e, if_pos (show gar L1 Q 0 5 = true from gQ 5 (by decide)), zlet_e, if_pos (show gar L1 Q 0 6 = true from gQ 6 (by decide)), zlet_e, if_pos (gQ what hwhat)]
    rw [show zs (zs (zs (zs (zs (zs (zs (zw M Q fun _ => 0) Q (zi 0) 24) Q (zi 1) 24) Q (zi 2) 24) Q (zi 3) 24) Q (zi 4) 999) Q (zi 5) 99) Q (zi 6) (-1) = M1 from rfl, show (zw R Q fun _ => none) = R1 from rfl]
    refine Eq.trans (congrArg (fun o => Option.bind o _) (a₂ := some cc) ?_) ?_
    · rw [← hcc, zn_zi (show what < 2147483648 by omega)]
      simp only [zlet, go, if_true, f7]
    · rw [Option.bind_some, if_pos hz1, hset, Option.bind_some]
      exact if_pos rfl
  have idle : (((if (M1 Q what) < znn v then some (0 : Int32) else (if znn what = (2 : Int32) then (if 0 < znn v then (if znn what < (3 : Int32) then some (1 : Int32) else (if znn a < znn n then some (1 : Int32) else some (0 : Int32))) else some (0 : Int32)) else (if znn what < (3 : Int32) then some (1 : Int32) else (if znn a < znn n then some (1 : Int32) else some (0 : Int32))))) : Option (Int32)) = some 0) → f150_set (znn what) (znn a) (znn v) B = some (0, B) → zRE r14 n Y M R L (fun sc k50 fu x20 => g152_se sc r14 k50 fu x20 x (znn a) v56 X (T m) (znn m) M R L) := fun hcc hr => by
    obtain ⟨M2, c1, c2, c3⟩ := call_r (sync_set (znn what) (znn a) (znn v)) hI1 hr
    obtain ⟨M3, R3, L3, B3, t1, t2, X3, x31, x32, x33⟩ := tail0' (r14 := r14) ⟨c2, LWx_gF hw1 (gF_call (own := fun _ => False) c3) (fun _ _ _ hh => hh.elim), hs1⟩ (by omega)
    refine ⟨M3, R3, L3, B3, T, Bb, m, k, fun sc k50 fu x20 => ?_, zWS_Y t2 (by omega), [(0, 7)] ++ X3, by rw [x31]; simp [L1], by simp; omega, by simp; omega⟩
    show g152_se sc r14 k50 fu x20 x (znn a) v56 X (T m) (znn m) M R L = _
    rw [head sc k50 fu x20 0 hcc M2 c1, if_pos rfl]
    exact t1 sc k50 fu x20 X
  by_cases h6 : what = 6
  · subst h6
    refine idle ?_ set_six
    rw [show M1 Q 6 = -1 from mosM_6, if_pos (neg_lt_zn (by omega))]
  · have hw5 : what ≤ 5 := by omega
    have hlaw : ((if (M1 Q what) < znn v then some (0 : Int32) else (if znn what = (2 : Int32) then (if 0 < znn v then (if znn what < (3 : Int32) then some (1 : Int32) else (if znn a < znn n then some (1 : Int32) else some (0 : Int32))) else some (0 : Int32)) else (if znn what < (3 : Int32) then some (1 : Int32) else (if znn a < znn n then some (1 : Int32) else some (0 : Int32))))) : Option (Int32)) = some (if v ≤ mst what ∧ (what = 2 → 0 < v) ∧ (2 < what → a < n) then 1 else 0) := by
      rw [show M1 Q what = znn (mst what) from mosM_at hw5]
      exact may_law a2 ha hw5 (by omega)
    by_cases hmay : mayS n what a v
    · rw [if_pos (show v ≤ mst what ∧ (what = 2 → 0 < v) ∧ (2 < what → a < n) from hmay)] at hlaw
      obtain ⟨B1, s1, s2, s3, s4, s5⟩ := set_yes (B := B) hw5 a2 a5 ha (by omega) hmay
      obtain ⟨M2, c1, c2, c3⟩ := call_r (sync_set (znn what) (znn a) (znn v)) hI1 s1
      let M3 : ZI := zs M2 (putC (T m) (Bb m) what a) (putF what) (znn v)
      have hpc : 148 ≤ putC (T m) (Bb m) what a := by unfold putC; split <;> omega
      have hI3 : Inv2 M3 B1 := Inv2_of c2 (fun o ho => by show zs M2 _ _ _ o = _; rw [zs_ap, if_neg (by omega)]) (fun _ _ => rfl)
      have hcur : landIs M3 R1 L1 (T m) (Bb m) (B1 149) n k := landIs_put (landIs_cls hc1 c3 hz1) a2 a3 hz1 (Inv2_rule hI) hw5 hmay.2.2 (by omega) s5
      have hpl : plc what a ≠ 0 ∧ plc what a ≠ 5 ∧ plc what a ≠ 48 ∧ plc what a ≠ 52 := by
        unfold plc
        have := hmay.2.2
        repeat' split
        all_goals omega
      obtain ⟨hl, hy⟩ := LWx_ly hw
      have hw3 : LWx M3 R1 L1 B1 (fun _ => T m) (fun _ => Bb m) 0 n k Y := LWx_reset hz1 a2 a3 (by rw [s5, if_neg (Ne.symm hpl.2.2.1)]; exact a5) (by rw [s5, if_neg (Ne.symm hpl.2.2.2)]; exact a6) (by rw [s3 19 (by decide)]; exact a7) s4 hcur (by rw [s5, if_neg (Ne.symm hpl.2.1)]; exact hl) (by rw [s5, if_neg (Ne.symm hpl.1)]; exact hy)
      obtain ⟨M4, R4, L4, B4, t1, t2, X3, x31, x32, x33⟩ := tail0' (r14 := r14) (T := fun _ => T m) (m := 0) ⟨hI3, hw3, hs1.1, hs1.2.1, fun j hj => absurd hj (Nat.not_lt_zero _)⟩ (by omega)
      refine ⟨M4, R4, L4, B4, _, _, 0, k, fun sc k50 fu x20 => ?_, zWS_Y t2 (by omega), [(0, 7)] ++ X3, by rw [x31]; simp [L1], by simp; omega, by simp; omega⟩
      show g152_se sc r14 k50 fu x20 x (znn a) v56 X (T m) (znn m) M R L = _
      rw [head sc k50 fu x20 1 hlaw M2 c1, if_neg (show ¬ (1 : Int32) = 0 by decide)]
      rw [put_made (fun MM => g152_j98 sc r14 k50 fu x20 X (T m) (0 : Int32) (0 : Int32) MM R1 L1) hw5 a2 hmay.2.2 ha (by omega) go o4 o2 (fun p hp => ⟨(cP p hp).1, (cP p hp).2.1⟩)]
      exact t1 sc k50 fu x20 X
    · rw [if_neg (show ¬ (v ≤ mst what ∧ (what = 2 → 0 < v) ∧ (2 < what → a < n)) from hmay)] at hlaw
      exact idle hlaw (set_no hw5 a2 a5 ha (by omega) hmay)
