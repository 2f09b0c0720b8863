-- ===== the ties, told one after another =====
theorem bit_zi {w : Nat → Int32} {p s q : Nat} (h : w p = znn s) (hs : s < 1024) : (zi (w p)).testBit q = s.testBit q := by
  rw [h, zn_zi (by omega)]
theorem ties_loop {sc : ZS} {t b n : Nat} {v10 : Int32} {R : ZF} {L : ZY} (K : ZI → Option (Option Nat × ZH)) (hsc : sc.1 ≤ 1000) (hn : n ≤ 10) (hz : zgood R L = true) (hL : L.length ≤ 600000) : ∀ m k fuel (M : ZI) (B : ZI), k + m = bw (zshr v10 7) 13 → m < fuel → Inv2 M B → landIs M R L t b (B 149) n 0 → B 149 48 = znn n → B 148 19 = 0 → symT (B 149) n →
    ∃ M' B', g151_l433 sc 0 t v10 (znn n) R L K fuel (znn k) M = K M' ∧ Inv2 M' B' ∧ landIs M' R L t b (B' 149) n 0 ∧ B' 149 48 = znn n ∧ B' 148 19 = 0 ∧ ∀ j, ¬ (7 ≤ j ∧ j < 17) → B' 149 j = B 149 j := by
  have hN := bw_lt (zshr v10 7) (show 0 < 13 by decide)
  have ebt : g115_between (zshr v10 7) 0 12 = some (znn (bw (zshr v10 7) 13)) := btw0 (hi := 12) _ (by decide)
  intro m
  induction m with
  | zero =>
    intro k fuel M B hk hf hI h h48 h19 hsy
    obtain ⟨fu, rfl⟩ : ∃ k, fuel = k + 1 := ⟨fuel - 1, by omega⟩
    refine ⟨M, B, ?_, hI, h, h48, h19, fun _ _ => rfl⟩
    rw [g151_l433, ebt]
    simp only [Option.bind_some]
    rw [if_neg (by rw [zn_lt (by omega) (by omega)]; omega)]
  | succ m ih =>
    intro k fuel M B hk hf hI h h48 h19 hsy
    obtain ⟨fu, rfl⟩ : ∃ k, fuel = k + 1 := ⟨fuel - 1, by omega⟩
    by_cases hn1 : ¬ 1 < n
    · refine ⟨M, B, ?_, hI, h, h48, h19, fun _ _ => rfl⟩
      rw [g151_l433, ebt]
      simp only [Option.bind_some]
      rw [if_pos ((zn_lt (by omega) (by omega)).mpr (by omega)), if_neg (by rw [zl1, zn_lt (by decide) (by omega)]; exact hn1)]
    have hn1' : 1 < n := Classical.byContradiction hn1
    obtain ⟨hO, hF, ⟨hb, hP⟩, -, -, -, -⟩ := id h
    obtain ⟨o1, o2, o3, o4, o5, o6⟩ := hO
    have lt := lay_le o1
    obtain ⟨v121, ec⟩ := cell_ok (k := 5) hsc (by decide)
    generalize hv : v121 * (znn k + 1) + 233 * znn k = v
    let a := bw v n
    let c := bw (zshr v 4) n
    have ha : a < n := bw_lt _ (by omega)
    have hc : c < n := bw_lt _ (by omega)
    have hm1 : znn n - 1 = znn (n - 1) := by rw [zl1, zn_sub (by omega)]
    have ba : g115_between v 0 (znn (n - 1)) = some (znn a) := by
      rw [btw0 (hi := n - 1) _ (by omega), show n - 1 + 1 = n by omega]
    have bc : g115_between (zshr v 4) 0 (znn (n - 1)) = some (znn c) := by
      rw [btw0 (hi := n - 1) _ (by omega), show n - 1 + 1 = n by omega]
    obtain ⟨sa, hsa, ea, -⟩ := Inv2_ties hI h48 hn ha
    obtain ⟨sc', hsc', ecc, -⟩ := Inv2_ties hI h48 hn hc
    obtain ⟨pa1, pa2, pa3⟩ := hP a ha
    obtain ⟨pc1, pc2, pc3⟩ := hP c hc
    have qa : M (b + a) 6 = znn sa := pa3.2.2.2.2.2.2.trans ea
    have qc : M (b + c) 6 = znn sc' := pc3.2.2.2.2.2.2.trans ecc
    have go : gob L t 10 = true := gob_of o1 (by omega)
    have ga : gar L (t + 1) 51 (znn a) = true := gar10 o2 (by omega) (by omega)
    have gc : gar L (t + 1) 51 (znn c) = true := gar10 o2 (by omega) (by omega)
    have gra : gar L (b + a) 0 6 = true := gar7 (j := 6) pa2 (by omega) (by decide)
    have grc : gar L (b + c) 0 6 = true := gar7 (j := 6) pc2 (by omega) (by decide)
    have hbit : (if (zshr (M (b + a) (zi 6)) (znn c) &&& 1) = 1 then some (1 : Int32) else some 0) = some (if sa.testBit c = true then 1 else 0) := by
      rw [show zi (6 : Int32) = 6 from rfl, qa, zbit (by omega) (by omega)]
      by_cases hh : sa.testBit c = true
      · rw [if_pos hh, if_pos rfl]
      · rw [if_neg hh, if_neg (by decide)]
    obtain ⟨mk, hmk, e4⟩ := Inv2_kept hI
    -- what the call says, and what becomes of it
    have hcall : ∃ v M1 B1, f18_tie (znn a) (znn c) 1 M = some (v, M1) ∧ Inv2 M1 B1 ∧ (∀ o, 148 ≤ o → M1 o = M o) ∧ (if a = c then some (0 : Int32) else if (if sa.testBit c = true then (1 : Int32) else 0) = 0 then some 1 else some 0) = some v ∧ (a = c → B1 = B) ∧ (a ≠ c → B1 149 (7 + a) = znn (sa ||| 2 ^ c) ∧ B1 149 (7 + c) = znn (sc' ||| 2 ^ a)) ∧ (∀ j, j ≠ 7 + a → j ≠ 7 + c → B1 149 j = B 149 j) ∧ B1 148 19 = 0 := by
      by_cases hac : a = c
      · have hr : f199_tie (znn a) (znn c) 1 B = some (0, B) := tie_none hn h48 (by omega) (by omega) (fun hh => hh.2.2 hac)
        obtain ⟨M1, c1, c2, c3⟩ := call_r (sync_tie _ _ _) hI hr
        exact ⟨0, M1, B, c1, c2, c3, if_pos hac, fun _ => rfl, fun hh => absurd hac hh, fun _ _ _ => rfl, h19⟩
      · obtain ⟨t1, t2⟩ := tie_r (is := 1) hn h48 ha hc hac ea hsa
        by_cases hbt : sa.testBit c = true
        · obtain ⟨M1, c1, c2, c3⟩ := call_r (sync_tie _ _ _) hI (t1 (if_pos hbt))
          refine ⟨0, M1, B, c1, c2, c3, by rw [if_neg hac, if_pos hbt, if_neg (by decide)], fun _ => rfl, fun _ => ⟨by rw [or_same hbt]; exact ea, ?_⟩, fun _ _ _ => rfl, h19⟩
          have : sc'.testBit a = true := by
            have := hsy a c ha hc
            rw [bit_zi ea hsa, bit_zi ecc hsc'] at this
            rw [← this]; exact hbt
          rw [or_same this]; exact ecc
        · obtain ⟨B1, m', k1, k2, k3⟩ := t2 (by rw [if_neg hbt]; decide) mk hmk e4
          obtain ⟨M1, c1, c2, c3⟩ := call_r (sync_tie _ _ _) hI k1
          have hbf : sa.testBit c = false := by cases hh : sa.testBit c with
            | true => exact absurd hh hbt
            | false => rfl
          have hbf2 : sc'.testBit a = false := by
            have := hsy a c ha hc
            rw [bit_zi ea hsa, bit_zi ecc hsc'] at this
            rw [← this]; exact hbf
          refine ⟨1, M1, B1, c1, c2, c3, by rw [if_neg hac, if_neg hbt, if_pos rfl], fun hh => absurd hh hac, fun _ => ⟨?_, ?_⟩, fun j q1 q2 => by rw [k3, if_neg q1, if_neg q2], by rw [k2.2.2.2.1 19 (by decide)]; exact h19⟩
          · rw [k3, if_pos rfl, ea, shl_one (by omega), zn_xor, or_xor hbf]
          · rw [k3, if_neg (by omega), if_pos rfl, ecc, shl_one (by omega), zn_xor, or_xor hbf2]
    obtain ⟨u, M1, B1, c1, c2, c3, c4, c5, c6, c7, c8⟩ := hcall
    have ec' : g114_cell sc ((0 : Int32) + 5) = some v121 := ec
    have hhead : g151_l433 sc 0 t v10 (znn n) R L K (fu + 1) (znn k) M = (if a = c then g151_l433 sc 0 t v10 (znn n) R L K fu (znn (k + 1)) M1 else g151_l433 sc 0 t v10 (znn n) R L K fu (znn (k + 1)) (zs (zs M1 (b + a) 6 ((M1 (b + a) 6) ||| (zshl (1 : Int32) (znn c)))) (b + c) 6 (((zs M1 (b + a) 6 ((M1 (b + a) 6) ||| (zshl (1 : Int32) (znn c)))) (b + c) 6) ||| (zshl (1 : Int32) (znn a))))) := by
      rw [g151_l433, ebt]
      simp only [Option.bind_some]
      rw [if_pos ((zn_lt (by omega) (by omega)).mpr (by omega)), if_pos (by rw [zl1, zn_lt (by decide) (by omega)]; exact hn1'), ec']
      simp only [Option.bind_some, zlet]
      rw [hv, hm1, ba]
      simp only [Option.bind_some]
      rw [bc]
      simp only [Option.bind_some]
      rw [if_pos go, o4]
      simp only [Option.bind_some]
      rw [if_pos ga, zn_zi (show a < 2147483648 by omega), pa1]
      simp only [Option.bind_some]
      rw [if_pos gra, hbit]
      simp only [Option.bind_some]
      rw [if_pos hz, c1]
      simp only [Option.bind_some]
      have ez : (if znn a = znn c then some (0 : Int32) else if (if sa.testBit c = true then (1 : Int32) else 0) = 0 then some 1 else some 0) = some u := by
        rw [← c4]
        by_cases hac : a = c
        · rw [if_pos hac, if_pos (by rw [hac])]
        · rw [if_neg hac, if_neg (by rw [zn_eq (by omega) (by omega)]; exact hac)]
      rw [ez]
      simp only [Option.bind_some]
      rw [if_pos trivial, zadd1]
      by_cases hac : a = c
      · rw [if_pos hac, if_pos (by rw [hac])]
      · rw [if_neg hac, if_neg (show ¬ znn a = znn c by rw [zn_eq (by omega) (by omega)]; exact hac), if_pos ga, if_pos gra, if_pos gc, zn_zi (show c < 2147483648 by omega), pc1]
        simp only [Option.bind_some]
        rw [if_pos grc]
        rfl
    rw [hhead]
    by_cases hac : a = c
    · have hB := c5 hac
      subst hB
      have hl1 : landIs M1 R L t b (B1 149) n 0 := landIs_cls h c3 hz
      obtain ⟨M', B', g1, g2, g3, g4, g5, g6⟩ := ih (k + 1) fu M1 B1 (by omega) (by omega) c2 hl1 h48 h19 hsy
      exact ⟨M', B', by rw [if_pos hac]; exact g1, g2, g3, g4, g5, g6⟩
    · obtain ⟨d1, d2⟩ := c6 hac
      let M2 : ZI := zs M1 (b + a) 6 ((M1 (b + a) 6) ||| (zshl (1 : Int32) (znn c)))
      let M3 : ZI := zs M2 (b + c) 6 ((M2 (b + c) 6) ||| (zshl (1 : Int32) (znn a)))
      have hM1a : M1 (b + a) 6 = znn sa := by rw [c3 _ (by omega)]; exact qa
      have hM1c : M1 (b + c) 6 = znn sc' := by rw [c3 _ (by omega)]; exact qc
      have hM3o : ∀ x, ¬ ownR b n x → M3 x = M1 x := fun x hx => by
        have n1 : x ≠ b + a := fun he => hx ⟨by omega, by omega⟩
        have n2 : x ≠ b + c := fun he => hx ⟨by omega, by omega⟩
        show zs (zs M1 (b + a) 6 _) (b + c) 6 _ x = _
        rw [zs_ap, if_neg n2, zs_ap, if_neg n1]
      have hrow : ∀ p j, p < n → M3 (b + p) j = if j = 6 then B1 149 (7 + p) else M (b + p) j := fun p j hp => by
        have e0 : M1 (b + p) j = M (b + p) j := by rw [c3 _ (by omega)]
        have hbase : j = 6 → p ≠ a → p ≠ c → M (b + p) j = B1 149 (7 + p) := fun hj h1 h2 => by
          subst hj
          rw [c7 (7 + p) (by omega) (by omega)]
          exact (hP p hp).2.2.2.2.2.2.2.2
        show zs (zs M1 (b + a) 6 ((M1 (b + a) 6) ||| (zshl (1 : Int32) (znn c)))) (b + c) 6 (((zs M1 (b + a) 6 ((M1 (b + a) 6) ||| (zshl (1 : Int32) (znn c)))) (b + c) 6) ||| (zshl (1 : Int32) (znn a))) (b + p) j = _
        have e1 : (zs M1 (b + a) 6 ((M1 (b + a) 6) ||| (zshl (1 : Int32) (znn c)))) (b + c) 6 = znn sc' := by rw [zs_df (by omega)]; exact hM1c
        rw [e1, hM1a, shl_one (by omega), shl_one (by omega), zn_or, zn_or, ← d1, ← d2]
        by_cases hpc : p = c
        · subst hpc
          rw [zs_sm, zs_df (by omega)]
          by_cases hj : j = 6
          · rw [if_pos hj, if_pos hj]
          · rw [if_neg hj, if_neg hj, e0]
        · rw [zs_df (by omega)]
          by_cases hpa : p = a
          · subst hpa
            rw [zs_sm]
            by_cases hj : j = 6
            · rw [if_pos hj, if_pos hj]
            · rw [if_neg hj, if_neg hj, e0]
          · rw [zs_df (by omega), e0]
            by_cases hj : j = 6
            · rw [if_pos hj]; exact hbase hj hpa hpc
            · rw [if_neg hj]
      have hcols : ∀ j, ¬ (7 ≤ j ∧ j < 7 + n) → B1 149 j = B 149 j := fun j hj => c7 j (by omega) (by omega)
      have hl3 : landIs M3 R L t b (B1 149) n 0 := landIs_ties h hn (by decide) hz (Inv2_rule hI) (fun x q1 q2 => by rw [hM3o x q2, c3 x q1]) hrow hcols
      have hI3 : Inv2 M3 B1 := Inv2_of c2 (fun o ho => hM3o o (fun hh => by have := hh.1; omega)) (fun _ _ => rfl)
      have hB48 : B1 149 48 = znn n := by rw [hcols 48 (by omega)]; exact h48
      have hsy1 : symT (B1 149) n := fun p q hp hq => by
        have hb1 : ∀ x y, x < n → y < n → (zi (B1 149 (7 + x))).testBit y = ((zi (B 149 (7 + x))).testBit y || (decide (x = a ∧ y = c) || decide (x = c ∧ y = a))) := fun x y hx hy => by
          by_cases hxa : x = a
          · subst hxa
            rw [d1, zn_zi (by have := or_pow_lt (n := 10) hsa (show c < 10 by omega); omega), Nat.testBit_or, Nat.testBit_two_pow, bit_zi ea hsa]
            have : decide (a = c ∧ y = a) = false := decide_eq_false (fun hh => hac hh.1)
            rw [this, Bool.or_false]
            congr 1
            by_cases hyc : c = y
            · rw [decide_eq_true hyc, decide_eq_true ⟨rfl, hyc.symm⟩]
            · rw [decide_eq_false hyc, decide_eq_false (fun hh => hyc hh.2.symm)]
          · by_cases hxc : x = c
            · subst hxc
              rw [d2, zn_zi (by have := or_pow_lt (n := 10) hsc' (show a < 10 by omega); omega), Nat.testBit_or, Nat.testBit_two_pow, bit_zi ecc hsc']
              have : decide (c = a ∧ y = c) = false := decide_eq_false (fun hh => hxa hh.1)
              rw [this, Bool.false_or]
              congr 1
              by_cases hya : a = y
              · rw [decide_eq_true hya, decide_eq_true ⟨rfl, hya.symm⟩]
              · rw [decide_eq_false hya, decide_eq_false (fun hh => hya hh.2.symm)]
            · rw [c7 (7 + x) (by omega) (by omega), decide_eq_false (fun hh => hxa hh.1), decide_eq_false (fun hh => hxc hh.1), Bool.or_false, Bool.or_false]
        rw [hb1 p q hp hq, hb1 q p hq hp, hsy p q hp hq]
        congr 1
        rw [Bool.or_comm]
        congr 1
        · by_cases hh : p = c ∧ q = a
          · rw [decide_eq_true hh, decide_eq_true ⟨hh.2, hh.1⟩]
          · rw [decide_eq_false hh, decide_eq_false (fun h => hh ⟨h.2, h.1⟩)]
        · by_cases hh : p = a ∧ q = c
          · rw [decide_eq_true hh, decide_eq_true ⟨hh.2, hh.1⟩]
          · rw [decide_eq_false hh, decide_eq_false (fun h => hh ⟨h.2, h.1⟩)]
      obtain ⟨M', B', g1, g2, g3, g4, g5, g6⟩ := ih (k + 1) fu M3 B1 (by omega) (by omega) hI3 hl3 hB48 c8 hsy1
      exact ⟨M', B', by rw [if_neg hac]; exact g1, g2, g3, g4, g5, fun j hj => by rw [g6 j hj, c7 j (by omega) (by omega)]⟩
