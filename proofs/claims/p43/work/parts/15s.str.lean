-- ===== TEXTS: the length of one, and one of its signs =====
theorem zX_retn {q : ZQ} {d y pc : Nat} {ls : List Slot} {M : ZI} {v : Int32} {t : FieldType} (hd : zdec y pc = some (.ireturn, 1)) (hr : zret y = some t) (hn : narrow t (.int v) = .int v) : zX q d y pc ls [.int v] M (some v) (zEi M) := by
  intro a ha r M' he
  cases ha
  obtain ⟨rfl, rfl⟩ := he
  refine ⟨1, ?_⟩
  cases t <;> simp_all [zrun, zstep]
theorem zX_tbytes {α : Type} {q : ZQ} {d y pc p s : Nat} {ls : List Slot} {st : List Value} {M : ZI} {o : Option α} {E : α → Option Value → ZI → Prop} (hd : zdec y pc = some (.getfield 9, 3)) (hw : zown y = 12) (hs : s < zSR.length) (hp : pc + 3 = p) (h : zX q d y p ls (.ref (3000000 + s) :: st) M o E) : zX q d y pc ls (.ref (2000000 + s) :: st) M o E := by
  subst hp
  have h1 : ¬ (2000000 + s < 1000000) := by omega
  have h2 : 2000000 ≤ 2000000 + s ∧ 2000000 + s < 2000000 + zSR.length := ⟨by omega, by omega⟩
  have h3 : zjf (zown y) 9 = some 0 := by rw [hw]; rfl
  refine zX_step hd ?_ h
  simp only [zstep, if_true, zget, if_neg h1, if_pos h2, h3]
  rw [show 2000000 + s + 1000000 = 3000000 + s by omega]
theorem zX_tcoder {α : Type} {q : ZQ} {d y pc p s : Nat} {ls : List Slot} {st : List Value} {M : ZI} {o : Option α} {E : α → Option Value → ZI → Prop} (hd : zdec y pc = some (.getfield 15, 3)) (hw : zown y = 12) (hs : s < zSR.length) (hp : pc + 3 = p) (h : zX q d y p ls (.int 0 :: st) M o E) : zX q d y pc ls (.ref (2000000 + s) :: st) M o E := by
  subst hp
  have h1 : ¬ (2000000 + s < 1000000) := by omega
  have h2 : 2000000 ≤ 2000000 + s ∧ 2000000 + s < 2000000 + zSR.length := ⟨by omega, by omega⟩
  have h3 : zjf (zown y) 15 = some 1 := by rw [hw]; rfl
  refine zX_step hd ?_ h
  simp only [zstep, if_true, zget, if_neg h1, if_pos h2, h3]
theorem zsta_12 : zsta 12 38 = some 0 ∧ zsta 12 1053 = some 1 := by decide +kernel
theorem zX_tstat {α : Type} {q : ZQ} {d y pc p : Nat} {ls : List Slot} {st : List Value} {M : ZI} {o : Option α} {E : α → Option Value → ZI → Prop} (hd : zdec y pc = some (.getstatic 38, 3)) (hw : zown y = 12) (hp : pc + 3 = p) (h : zX q d y p ls (.int 1 :: st) M o E) : zX q d y pc ls st M o E := by
  subst hp
  refine zX_step hd ?_ h
  simp only [zstep, if_true, hw, zsta_12.1]
  rfl
theorem zX_tform {α : Type} {q : ZQ} {d y pc p : Nat} {ls : List Slot} {st : List Value} {M : ZI} {o : Option α} {E : α → Option Value → ZI → Prop} (hd : zdec y pc = some (.getstatic 1053, 3)) (hw : zown y = 12) (hp : pc + 3 = p) (h : zX q d y p ls (.retAddr 0 :: st) M o E) : zX q d y pc ls st M o E := by
  subst hp
  refine zX_step hd ?_ h
  simp only [zstep, if_true, hw, zsta_12.2]
  rfl
theorem zBR {s : Nat} (hs : s < zSR.length) : zBY.getD s [] = zSR.getD s [] ∧ s < zBY.length := ⟨zBY_lo (by rw [zSR_len] at hs; exact hs), by rw [zSR_len] at hs; rw [zBY_len]; omega⟩
theorem zX_tlen {α : Type} {q : ZQ} {d y pc p s : Nat} {ls : List Slot} {st : List Value} {M : ZI} {o : Option α} {E : α → Option Value → ZI → Prop} (hd : zdec y pc = some (.arraylength, 1)) (hs : s < zSR.length) (hp : pc + 1 = p) (h : zX q d y p ls (.int (Int32.ofNat (zsnR s)) :: st) M o E) : zX q d y pc ls (.ref (3000000 + s) :: st) M o E := by
  subst hp
  have h1 : ¬ (3000000 + s < 1000000) := by omega
  have h0 : ¬ (3000000 + s = 1000000) := by omega
  have hb := zBR hs
  have h2 : 3000000 ≤ 3000000 + s ∧ 3000000 + s < 3000000 + zBY.length := ⟨by omega, by omega⟩
  refine zX_step hd ?_ h
  simp only [zstep, if_true, zlen, if_neg h1, if_neg h0, if_pos h2]
  rw [show 3000000 + s - 3000000 = s by omega, hb.1]
  rfl
theorem zX_tget {α : Type} {q : ZQ} {d y pc p s : Nat} {ls : List Slot} {st : List Value} {M : ZI} {o : Option α} {E : α → Option Value → ZI → Prop} {i : Int32} (hd : zdec y pc = some (.baload, 1)) (hs : s < zSR.length) (hi : zin i (zsnR s) = true) (hp : pc + 1 = p) (h : zX q d y p ls (.int ((zSR.getD s []).getD (zi i) 0) :: st) M o E) : zX q d y pc ls (.int i :: .ref (3000000 + s) :: st) M o E := by
  subst hp
  have hi := of_decide_eq_true hi
  have h1 : ¬ (3000000 + s < 1000000) := by omega
  have h0 : ¬ (3000000 + s = 1000000) := by omega
  have h5 : 3000000 + s - 3000000 = s := by omega
  have hb := zBR hs
  have h2 : True ∧ 3000000 ≤ 3000000 + s ∧ 3000000 + s < 3000000 + zBY.length ∧ ¬ (i < 0 ∨ (zBY.getD (3000000 + s - 3000000) []).length ≤ i.toNatClampNeg) := ⟨trivial, by omega, by omega, by rw [h5, hb.1]; exact hi⟩
  refine zX_step hd ?_ h
  simp only [zstep, if_true, zald, if_neg h1, if_neg h0]
  rw [if_pos h2, h5, hb.1]
  rfl
theorem zX_tvirt {α : Type} {q : ZQ} {d y pc p ix w k s m : Nat} {ls l0 : List Slot} {st : List Value} {M : ZI} {v : Int32} {o : Option α} {E : α → Option Value → ZI → Prop} (hd : zdec y pc = some (.invokevirtual ix, 3)) (hw : zown y = w) (hr : zres w ix = some k) (hk : k < 152 ∧ zkind k = 1 ∧ znar k = 0 ∧ zml k = m) (hm : Nat.ble 1 m = true) (hw2 : zown k = 12) (hzd : zdir k = true) (hs : s < zSR.length) (hE : zX q d k 0 l0 [] M (some v) (zEi M)) (hc : zcats (.ref (2000000 + s) :: st) = true) (hz : zroom st = true) (hl : zent m [.ref (2000000 + s)] = l0) (hp : pc + 3 = p) (h : zX q (d + 1) y p ls (.int v :: st) M o E) : zX q (d + 1) y pc ls (.ref (2000000 + s) :: st) M o E := by
  obtain rfl := hk.2.2.2
  subst hp; subst hw; subst hl
  intro b hb r M' he
  refine zEnds_call (k := k) (as := [.ref (2000000 + s)]) (rest := st) (r1 := some (.int v)) (M1 := M) hd ?_ (Nat.le_of_ble_eq_true hm) (hE v rfl _ _ ⟨rfl, rfl⟩) (h b hb r M' he)
  simp only [zstep, zcallV, if_true, hr]
  rw [if_neg (by omega), if_neg (by omega), if_pos ⟨hk.1, hk.2.1⟩, hk.2.2.1]
  simp only [List.drop_zero]
  have h1 : ¬ (2000000 + s < 1000000) := by omega
  rw [show zinh (M, q.2.1, zHc ++ q.2.2) k (.ref (2000000 + s)) = none from if_neg h1]
  simp only
  rw [if_pos ⟨by simp [zrecv, h1, hw2, hs]; rfl, hzd, hc, hz⟩]
  rfl
theorem zX_tvirt1 {α : Type} {q : ZQ} {d y pc p ix w k s m : Nat} {ls l0 : List Slot} {st : List Value} {M : ZI} {v i : Int32} {o : Option α} {E : α → Option Value → ZI → Prop} (hd : zdec y pc = some (.invokevirtual ix, 3)) (hw : zown y = w) (hr : zres w ix = some k) (hk : k < 152 ∧ zkind k = 1 ∧ znar k = 1 ∧ zml k = m) (hm : Nat.ble 2 m = true) (hw2 : zown k = 12) (hzd : zdir k = true) (hs : s < zSR.length) (hE : zX q d k 0 l0 [] M (some v) (zEi M)) (hc : zcats (.int i :: .ref (2000000 + s) :: st) = true) (hz : zroom st = true) (hl : zent m [.ref (2000000 + s), .int i] = l0) (hp : pc + 3 = p) (h : zX q (d + 1) y p ls (.int v :: st) M o E) : zX q (d + 1) y pc ls (.int i :: .ref (2000000 + s) :: st) M o E := by
  obtain rfl := hk.2.2.2
  subst hp; subst hw; subst hl
  intro b hb r M' he
  refine zEnds_call (k := k) (as := [.ref (2000000 + s), .int i]) (rest := st) (r1 := some (.int v)) (M1 := M) hd ?_ (Nat.le_of_ble_eq_true hm) (hE v rfl _ _ ⟨rfl, rfl⟩) (h b hb r M' he)
  simp only [zstep, zcallV, if_true, hr]
  rw [if_neg (by omega), if_neg (by omega), if_pos ⟨hk.1, hk.2.1⟩, hk.2.2.1]
  simp only [List.drop_succ_cons, List.drop_zero]
  have h1 : ¬ (2000000 + s < 1000000) := by omega
  rw [show zinh (M, q.2.1, zHc ++ q.2.2) k (.ref (2000000 + s)) = none from if_neg h1]
  simp only
  rw [if_pos ⟨by simp [zrecv, h1, hw2, hs]; rfl, hzd, hc, hz⟩]
  rfl
theorem zX_coder {q : ZQ} {d s : Nat} {M : ZI} (hs : s < zSR.length) : zX q d 58 0 [.val (.ref (2000000 + s))] [] M (some 0) (zEi M) := by
  refine zX_tstat (p := 3) d_58_0 ow_58 rfl ?_
  refine zX_step (p := 6) d_58_3 rfl ?_
  refine zX_aln0 (p := 7) d_58_6 rfl (zX_tcoder (p := 10) d_58_7 ow_58 hs rfl (zX_goto (p := 14) d_58_10 (by decide) ?_))
  exact zX_retn d_58_14 rt_58 rfl
theorem zX_latin {q : ZQ} {d s : Nat} {M : ZI} (hs : s < zSR.length) : zX q d 60 0 [.val (.ref (2000000 + s))] [] M (some 1) (zEi M) := by
  refine zX_tstat (p := 3) d_60_0 ow_60 rfl ?_
  refine zX_step (p := 6) d_60_3 rfl ?_
  refine zX_aln0 (p := 7) d_60_6 rfl (zX_tcoder (p := 10) d_60_7 ow_60 hs rfl ?_)
  refine zX_step (p := 13) d_60_10 rfl ?_
  refine zX_ic (p := 14) d_60_13 ci_1 rfl (zX_goto (p := 18) d_60_14 (by decide) ?_)
  exact zX_retib d_60_18 rt_60 (Or.inr rfl)
theorem zX_length {q : ZQ} {d s : Nat} {M : ZI} (hs : s < zSR.length) : zX q (d + 1) 57 0 [.val (.ref (2000000 + s))] [] M (some (zslnR s)) (zEi M) := by
  refine zX_aln0 (p := 1) d_57_0 rfl (zX_tbytes (p := 4) d_57_1 ow_57 hs rfl (zX_tlen (p := 5) d_57_4 hs rfl (zX_aln0 (p := 6) d_57_5 rfl ?_)))
  refine zX_tvirt (p := 9) d_57_6 ow_57 rs_12_335 kk_58 rfl ow_58 zdr_58 hs (zX_coder hs) rfl rfl rfl rfl ?_
  exact zX_shr (p := 10) d_57_9 rfl (zX_reti d_57_10 rt_57)
theorem zX_slen {α : Type} {q : ZQ} {d y pc p ix w : Nat} {ls : List Slot} {st : List Value} {M : ZI} {o : Option α} {E : α → Option Value → ZI → Prop} (hd : zdec y pc = some (.invokevirtual ix, 3)) (hw : zown y = w) (hr : zres w ix = some 57) (hs : 0 < zSR.length) (hc : zcats (.ref 2000000 :: st) = true) (hz : zroom st = true) (hp : pc + 3 = p) (h : zX q (d + 6) y p ls (.int (zsln 0) :: st) M o E) : zX q (d + 6) y pc ls (.ref 2000000 :: st) M o E := by
  rw [zsln_0] at h
  exact zX_tvirt (s := 0) (d := d + 5) hd hw hr kk_57 rfl ow_57 zdr_57 hs (zX_length (d := d + 4) hs) hc hz rfl hp h
theorem zch_lt {i : Int32} {s : Nat} (hs : s < zSR.length) (hi : zin i (zsnR s) = true) : ¬ i < 0 ∧ i < Int32.ofNat (zsnR s) := by
  obtain ⟨h1, h2⟩ := zin_lt hi
  refine ⟨h1, ?_⟩
  have hl : ∀ s < zSR.length, zsnR s < 1000 := by decide +kernel
  have h3 := hl s hs
  rw [Int32.lt_iff_toInt_lt] at h1 ⊢
  rw [Int32.toInt_ofNat_of_lt (by omega)]
  have : i.toNatClampNeg = i.toInt.toNat := rfl
  unfold zi at h2
  have h4 : (0 : Int32).toInt = 0 := rfl
  omega
theorem zX_chk {q : ZQ} {d : Nat} {M : ZI} {i n : Int32} (h1 : ¬ i < 0) (h2 : i < n) : zX q d 63 0 [.val (.int i), .val (.int n), .val (.retAddr 0)] [] M (some i) (zEi M) := by
  refine zX_iln0 (p := 1) d_63_0 rfl ?_
  have h3 : zX q d 63 4 [.val (.int i), .val (.int n), .val (.retAddr 0)] [] M (some i) (zEi M) := by
    refine zX_iln0 (p := 5) d_63_4 rfl (zX_iln1 (p := 6) d_63_5 rfl ?_)
    have h4 := zX_clt (q := q) (d := d) (y := 63) (ls := [.val (.int i), .val (.int n), .val (.retAddr 0)]) (st := []) (M := M) (o1 := some i) (o2 := none) (E := zEi M) (a := i) (b := n) (p1 := 16) (p2 := 9) d_63_6 (by decide) rfl (zX_iln0 (p := 17) d_63_16 rfl (zX_reti d_63_17 rt_63)) zX_none
    rw [if_pos h2] at h4
    exact h4
  have h4 := zX_zlt (q := q) (d := d) (y := 63) (ls := [.val (.int i), .val (.int n), .val (.retAddr 0)]) (st := []) (M := M) (o1 := none) (o2 := some i) (E := zEi M) (a := i) (p1 := 9) (p2 := 4) d_63_1 (by decide) rfl zX_none h3
  rw [if_neg h1] at h4
  exact h4
theorem zX_chk2 {q : ZQ} {d : Nat} {M : ZI} {i n : Int32} (h1 : ¬ i < 0) (h2 : i < n) : zX q (d + 1) 62 0 [.val (.int i), .val (.int n)] [] M (some M) zEv := by
  refine zX_iln0 (p := 1) d_62_0 rfl (zX_iln1 (p := 2) d_62_1 rfl (zX_tform (p := 5) d_62_2 ow_62 rfl ?_))
  exact zX_cS3i (p := 8) (o1 := some i) (f := fun _ => some M) d_62_5 ow_62 rs_12_1059 kk_63 rfl (zX_chk h1 h2) rfl rfl rfl rfl (fun v => zX_pop (p := 9) d_62_8 rfl rfl (zX_retv d_62_9 rt_62))
theorem zX_cS2w {α : Type} {q : ZQ} {d y pc p ix w k : Nat} {ls l0 : List Slot} {st : List Value} {M : ZI} {o : Option α} {E : α → Option Value → ZI → Prop} {m : Nat} {v1 v2 : Value} (hd : zdec y pc = some (.invokestatic ix, 3)) (hw : zown y = w) (hr : zres w ix = some k) (hk : k < 152 ∧ zkind k = 0 ∧ znar k = 2 ∧ zml k = m) (hm : Nat.ble 2 m = true) (hE : zX q d k 0 l0 [] M (some M) zEv) (hc : zcats (v2 :: v1 :: st) = true) (hz : zroom st = true) (hl : zent m [v1, v2] = l0) (hp : pc + 3 = p) (h : zX q (d + 1) y p ls st M o E) : zX q (d + 1) y pc ls (v2 :: v1 :: st) M o E := by
  obtain rfl := hk.2.2.2
  subst hp; subst hw; subst hl
  intro b hb r M' he
  refine zEnds_call (k := k) (as := [v1, v2]) (rest := st) (r1 := none) (M1 := M) hd ?_ (Nat.le_of_ble_eq_true hm) (hE M rfl _ _ ⟨rfl, rfl⟩) (h b hb r M' he)
  simp only [zstep, zcallS, if_true, hr]
  rw [if_neg (by omega), if_neg (by omega), if_neg (by omega), if_pos ⟨hk.1, hk.2.1, by rw [hk.2.2.1]; simp, hc, by rw [hk.2.2.1]; exact hz⟩, hk.2.2.1]
  rfl
theorem zX_cS2x {α : Type} {q : ZQ} {d y pc p ix w k : Nat} {ls l0 : List Slot} {st : List Value} {M : ZI} {o : Option α} {E : α → Option Value → ZI → Prop} {m : Nat} {v1 v2 : Value} {v : Int32} (hd : zdec y pc = some (.invokestatic ix, 3)) (hw : zown y = w) (hr : zres w ix = some k) (hk : k < 152 ∧ zkind k = 0 ∧ znar k = 2 ∧ zml k = m) (hm : Nat.ble 2 m = true) (hE : zX q d k 0 l0 [] M (some v) (zEi M)) (hc : zcats (v2 :: v1 :: st) = true) (hz : zroom st = true) (hl : zent m [v1, v2] = l0) (hp : pc + 3 = p) (h : zX q (d + 1) y p ls (.int v :: st) M o E) : zX q (d + 1) y pc ls (v2 :: v1 :: st) M o E := by
  obtain rfl := hk.2.2.2
  subst hp; subst hw; subst hl
  intro b hb r M' he
  refine zEnds_call (k := k) (as := [v1, v2]) (rest := st) (r1 := some (.int v)) (M1 := M) hd ?_ (Nat.le_of_ble_eq_true hm) (hE v rfl _ _ ⟨rfl, rfl⟩) (h b hb r M' he)
  simp only [zstep, zcallS, if_true, hr]
  rw [if_neg (by omega), if_neg (by omega), if_neg (by omega), if_pos ⟨hk.1, hk.2.1, by rw [hk.2.2.1]; simp, hc, by rw [hk.2.2.1]; exact hz⟩, hk.2.2.1]
  rfl
theorem zX_i2c {α : Type} {q : ZQ} {d y pc p : Nat} {ls : List Slot} {st : List Value} {M : ZI} {o : Option α} {E : α → Option Value → ZI → Prop} {a : Int32} (hd : zdec y pc = some (.i2c, 1)) (hp : pc + 1 = p) (h : zX q d y p ls (.int (a.toUInt32 % 65536).toInt32 :: st) M o E) : zX q d y pc ls (.int a :: st) M o E := by
  subst hp
  exact zX_step hd (by simp [zstep]) h
theorem zch_nar (x : Int32) : narrow .char (.int ((x &&& 255).toUInt32 % 65536).toInt32) = .int ((x &&& 255).toUInt32 % 65536).toInt32 := by
  simp only [narrow, UInt32.toUInt32_toUInt16, UInt32.toUInt32_toInt32]
  rw [show ∀ y : UInt32, y % 65536 % 65536 = y % 65536 from fun y => UInt32.toNat_inj.mp (by simp)]
theorem zX_sch61 {q : ZQ} {d s : Nat} {M : ZI} {i : Int32} (hs : s < zSR.length) (hi : zin i (zsnR s) = true) : zX q (d + 2) 61 0 [.val (.ref (3000000 + s)), .val (.int i)] [] M (some (zchR s i)) (zEi M) := by
  obtain ⟨h1, h2⟩ := zch_lt hs hi
  refine zX_iln1 (p := 1) d_61_0 rfl (zX_aln0 (p := 2) d_61_1 rfl (zX_tlen (p := 3) d_61_2 hs rfl ?_))
  refine zX_cS2w (p := 6) d_61_3 ow_61 rs_17_9 kk_62 rfl (zX_chk2 h1 h2) rfl rfl rfl rfl ?_
  refine zX_aln0 (p := 7) d_61_6 rfl (zX_iln1 (p := 8) d_61_7 rfl (zX_tget (p := 9) d_61_8 hs hi rfl (zX_si (p := 12) (c := 255) d_61_9 (by decide) rfl (zX_and (p := 13) d_61_12 rfl (zX_i2c (p := 14) d_61_13 rfl ?_)))))
  exact zX_retn d_61_14 rt_61 (zch_nar _)
theorem zX_charAt {q : ZQ} {d s : Nat} {M : ZI} {i : Int32} (hs : s < zSR.length) (hi : zin i (zsnR s) = true) : zX q (d + 3) 59 0 [.val (.ref (2000000 + s)), .val (.int i)] [] M (some (zchR s i)) (zEi M) := by
  refine zX_aln0 (p := 1) d_59_0 rfl ?_
  refine zX_tvirt (p := 4) d_59_1 ow_59 rs_12_492 kk_60 rfl ow_60 zdr_60 hs (zX_latin hs) rfl rfl rfl rfl ?_
  refine zX_step (p := 7) d_59_4 rfl ?_
  refine zX_aln0 (p := 8) d_59_7 rfl (zX_tbytes (p := 11) d_59_8 ow_59 hs rfl (zX_iln1 (p := 12) d_59_11 rfl ?_))
  exact zX_cS2x (p := 15) d_59_12 ow_59 rs_12_495 kk_61 rfl (zX_sch61 hs hi) rfl rfl rfl rfl (zX_retn d_59_15 rt_59 (zch_nar _))
theorem zX_sch {α : Type} {q : ZQ} {d y pc p ix w : Nat} {ls : List Slot} {st : List Value} {M : ZI} {o : Option α} {E : α → Option Value → ZI → Prop} {i : Int32} (hd : zdec y pc = some (.invokevirtual ix, 3)) (hw : zown y = w) (hr : zres w ix = some 59) (hs : 0 < zSR.length) (hc : zcats (.int i :: .ref 2000000 :: st) = true) (hz : zroom st = true) (hp : pc + 3 = p) (h : zX q (d + 6) y p ls (.int (zch 0 i) :: st) M o E) : zX q (d + 6) y pc ls (.int i :: .ref 2000000 :: st) M (if zin i (zsn 0) = true then o else none) E := by
  rw [zch_0] at h
  rw [zsn_0]
  exact zX_grd fun hi => zX_tvirt1 (s := 0) (d := d + 5) hd hw hr kk_59 rfl ow_59 zdr_59 hs (zX_charAt (d := d + 2) hs hi) hc hz rfl hp h
