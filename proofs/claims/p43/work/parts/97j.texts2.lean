-- ===== works drawn, told and read =====
def dN (x : Int32) (n : Nat) : Nat := if n = 0 then 0 else bw (zshr x 5) 10
theorem dN_le (x : Int32) (n : Nat) : dN x n ≤ 9 ∧ (0 < dN x n → 0 < n) := by
  unfold dN
  split
  · exact ⟨by omega, fun h => by omega⟩
  · have := bw_lt (zshr x 5) (show 0 < 10 by decide)
    exact ⟨by omega, fun _ => by omega⟩
theorem wTx_ok (x : Int32) {n : Nat} (hn : 0 < n) : ∀ m k, k + m ≤ 9 → ascN (wTx (dW x n) (dA x n) m k) ∧ (wTx (dW x n) (dA x n) m k).length ≤ 44 * m := by
  intro m
  induction m with
  | zero => intro k _; exact ⟨fun x hx => (by simp [wTx] at hx), by simp [wTx]⟩
  | succ m ih =>
    intro k hk
    obtain ⟨h1, h2⟩ := ih (k + 1) (by omega)
    obtain ⟨w0, w1, w2, w3, w4, w5, w6⟩ := dW_ok x k hn
    obtain ⟨k1, k2⟩ := one_ok (W := dW x n k) (A := dA x n k) (by omega) (by omega) (by omega) (by omega) (by omega) (fun y hy => by have := (dA_ok hy).1; omega)
    rw [wTx_one]
    exact ⟨asc_app k1 h1, by rw [List.length_append]; omega⟩
def wrkB (B B' : ZI) (x : Int32) (n : Nat) : Prop := (∀ o, o ≠ 148 → o ≠ 149 → o ≠ 156 → o ≠ 158 → B' o = B o) ∧ (∀ j, j ≠ 52 → j ≠ 6 → ¬ (90 ≤ j ∧ j < 162) → B' 149 j = B 149 j) ∧ (∀ i, i < dN x n → (∀ f, f < 5 → B' 149 (90 + (6 * i + f)) = znn (dW x n i f)) ∧ B' 149 (90 + (6 * i + 5)) = aI (dA x n i)) ∧ B' 149 52 = znn (dN x n) ∧ B' 149 6 = 0 ∧ B' 148 19 = 0 ∧ B' 148 4 = 0
theorem texts_two {M B : ZI} {R : ZF} {L : ZY} {t n : Nat} (x : Int32) (hI : Inv2 M B) (o1 : L[t]? = some (13, 15)) (o6 : 148 ≤ t) (h7 : M t 7 = znn n) (hz : zgood R L = true) (hL : L.length ≤ 500000) (h48 : B 149 48 = znn n) (hn : n ≤ 10) (h19 : B 148 19 = 0) : ∃ M' R' L' B' aw q, g116_w t x M R L = some (1, M', R', L') ∧ Inv2 M' B' ∧ gF (fun c => c = t) M R L M' R' L' ∧ wrkB B B' x n ∧ (∀ j, M' t j = if j = 9 then 0 else M t j) ∧ (∀ j, R' t j = if j = 11 then some aw else R t j) ∧ 148 ≤ aw ∧ L'[aw]? = some (51, dN x n) ∧ wRows q x n (dN x n) 148 aw M' R' L' ∧ ∃ X, L' = L ++ X ∧ X.length ≤ 400 ∧ (X.map Prod.snd).sum ≤ 26000 := by
  obtain ⟨hnw, hnw0⟩ := dN_le x n
  have h148 := zg_len hz
  have lt := lay_le o1
  have go : gob L t 10 = true := gob_of o1 (by omega)
  -- the builder and the array
  obtain ⟨M1, R1, e1, b1⟩ := sbo_new (M := M) (R := R) (L := L) (by omega) h148
  let L1 : ZY := L ++ [(14, 4)] ++ [(50, 16)]
  let L2 : ZY := L1 ++ [(51, dN x n)]
  let aw := L1.length
  have hL1 : L1.length = L.length + 2 := by simp [L1]
  have hL2 : L2.length = L.length + 3 := by simp [L2, hL1]
  let R2 : ZF := zr (zw R1 aw fun _ => none) t 11 (some aw)
  let M2 : ZI := zs (zw M1 aw fun _ => 0) t 9 0
  have hta : t ≠ aw := by show t ≠ L1.length; omega
  have hM2 : ∀ c, c < L.length → c ≠ t → M2 c = M c := fun c hc hct => by
    show zs (zw M1 aw fun _ => 0) t 9 0 c = _
    rw [zs_ap, if_neg hct, zw_ne _ _ (by show c ≠ L1.length; omega), (b1.2.2.2.1.2 c hc (fun hh => hh)).1]
  have hR2 : ∀ c, c < L.length → c ≠ t → R2 c = R c := fun c hc hct => by
    show zr (zw R1 aw fun _ => none) t 11 (some aw) c = _
    rw [zr_ap, if_neg hct, zw_ne _ _ (by show c ≠ L1.length; omega), (b1.2.2.2.1.2 c hc (fun hh => hh)).2]
  have hM2t : ∀ j, M2 t j = if j = 9 then 0 else M t j := fun j => by
    show zs (zw M1 aw fun _ => 0) t 9 0 t j = _
    rw [zs_sm, zw_ne _ _ hta, (b1.2.2.2.1.2 t lt (fun hh => hh)).1]
  have hR2t : ∀ j, R2 t j = if j = 11 then some aw else R t j := fun j => by
    show zr (zw R1 aw fun _ => none) t 11 (some aw) t j = _
    simp only [zr_ap, zwF_ap, if_true, if_neg hta]
    rw [(b1.2.2.2.1.2 t lt (fun hh => hh)).2]
  have hgA : gF (fun c => c = t) M R L M2 R2 L2 := ⟨⟨[(14, 4)] ++ [(50, 16)] ++ [(51, dN x n)], by simp [L2, L1]⟩, fun c _ hc hh => ⟨hM2 c hc hh, hR2 c hc hh⟩, fun c hc => hR2 c (by omega) (by omega)⟩
  have haw2 : L2[aw]? = some (51, dN x n) := lay_new
  -- the works
  obtain ⟨⟨cap, sb⟩, bs, bv, -, -⟩ := b1
  have sL := lay_le sb.1
  have vL := lay_le sb.2.2.2.1
  have sbW2 : sbW L M2 R2 L2 L.length (L.length + 1) [] 3 40 := by
    obtain ⟨a1, a2, a3, a4, a5, a6, a7, a8, a9, a10, a11⟩ := sb
    have hs1 : M2 L.length = M1 L.length := by
      show zs (zw M1 aw fun _ => 0) t 9 0 L.length = _
      rw [zs_ap, if_neg (by omega), zw_ne _ _ (by show L.length ≠ L1.length; omega)]
    have hv1 : M2 (L.length + 1) = M1 (L.length + 1) := by
      show zs (zw M1 aw fun _ => 0) t 9 0 (L.length + 1) = _
      rw [zs_ap, if_neg (by omega), zw_ne _ _ (by show L.length + 1 ≠ L1.length; omega)]
    have hs2 : R2 L.length = R1 L.length := by
      show zr (zw R1 aw fun _ => none) t 11 (some aw) L.length = _
      rw [zr_ap, if_neg (by omega), zw_ne _ _ (by show L.length ≠ L1.length; omega)]
    exact ⟨⟨cap, lay_app a1, a2, by rw [hs2]; exact a3, lay_app a4, a5, by rw [hs1]; exact a6, by rw [hs1]; exact a7, a8, a9, fun i hi => by rw [hv1]; exact a10 i hi, fun i hi => by rw [hv1]; exact a11 i hi⟩, Nat.le_refl _, Nat.le_succ _, [(14, 4)] ++ [(50, 16)] ++ [(51, dN x n)], by simp [L2, L1], by simp, by simp; omega⟩
  obtain ⟨M3, R3, L3, v3, q, e3, g3, ha3, s3, r3, cl3⟩ := works_heap (t := t) (n := n) (x := x) (M0 := M2) (R0 := R2) (L0 := L) hnw0 hn hnw o1 o6 (by rw [hM2t, if_neg (by decide)]; exact h7) (show R2 t 11 = some aw by rw [hR2t, if_pos rfl]) (by show L.length ≤ L1.length; omega) h148 (by omega) (dN x n) 0 zfu M2 R2 L2 _ [] 3 40 (fun _ => 0) (by omega) (by rw [zfu_eq]; omega) ⟨⟨_, by simp [L2, L1]; rfl⟩, fun _ _ _ _ => ⟨rfl, rfl⟩, fun _ _ => rfl⟩ haw2 sbW2 rfl (by simp) (by omega) (fun i hi => by omega) (fun _ _ => rfl)
  have hT : ascN (wTx (dW x n) (dA x n) (dN x n) 0) ∧ (wTx (dW x n) (dA x n) (dN x n) 0).length ≤ 400 := by
    by_cases h0 : dN x n = 0
    · rw [h0]; exact ⟨fun x hx => (by simp [wTx] at hx), by simp [wTx]⟩
    · obtain ⟨h1, h2⟩ := wTx_ok x (hnw0 (by omega)) (dN x n) 0 (by omega)
      exact ⟨h1, by omega⟩
  obtain ⟨M4, R4, L4, e4, s4, f4, x4⟩ := sbW_fin s3 hT.1 (by omega) (by omega)
  have hl3 := sbW_len s3
  have hgB : gF (fun _ => False) M2 R2 L M4 R4 L4 := gF_trans g3 (gF_hFr f4 (by omega) (fun _ hh => hh.elim))
  have hg4 : gF (fun c => c = t) M R L M4 R4 L4 := ⟨hgB.1, fun c q1 hc hh => by
    obtain ⟨a1, a2⟩ := hgB.2.1 c q1 hc (fun hh => hh)
    rw [a1, a2]
    exact ⟨hM2 c hc hh, hR2 c hc hh⟩, fun c hc => by rw [hgB.2.2 c hc]; exact hR2 c (by omega) (by omega)⟩
  obtain ⟨X4, x41, x42, x43⟩ := id x4
  have hl4 : L4.length ≤ L.length + 320 := by rw [x41]; simp; omega
  have hl4' : 148 ≤ L4.length := by rw [x41]; simp; omega
  have hI4 : Inv2 M4 B := Inv2_of hI (fun o ho => by rw [(f4.2 o (by omega) (fun hh => hh)).1, cl3 o ho, hM2 o (by omega) (by omega)]) (fun _ _ => rfl)
  obtain ⟨M5, R5, L5, B5, e5, g5, x5, hI5, tp5, bb, tb, ob, rb⟩ := say_tx hT.2 hT.1 s4 (zgood_gF hg4 hz) (by omega) hI4 h19
  have hg5 : gF (fun c => c = t) M R L M5 R5 L5 := gF_trans hg4 (gF_evo g5 hl4')
  obtain ⟨B6, p1, p2, p3, p4, p5, p6, p7, p8⟩ := text_works (n := n) (W := dW x n) (A := dA x n) tb ob hn (show dN x n ≤ 12 by omega) (by rw [tp5.1 149 (by decide) (by decide)]; exact h48) (fun j hj => dWA_ok x j (hnw0 (by omega))) rb
  obtain ⟨M6, c1, c2, c3⟩ := call_r (sync_text 2) hI5 p1
  have ha3l := lay_le ha3
  have hgC : gF (fun _ => False) M3 R3 L3 M6 R5 L5 := gF_trans (gF_hFr f4 (by omega) (fun _ hh => hh.elim)) (gF_trans (gF_evo g5 hl4') (gF_call c3))
  have htM : M6 t = M2 t := by
    rw [c3 t o6, g5.2.1 t o6 (by rw [x41]; simp; omega), (hgB.2.1 t o6 lt (fun hh => hh)).1]
  have htR : R5 t = R2 t := by
    rw [g5.2.2 t (by rw [x41]; simp; omega), (hgB.2.1 t o6 lt (fun hh => hh)).2]
  refine ⟨M6, R5, L5, B6, aw, q, ?_, c2, gF_trans hg5 (gF_call c3), ⟨fun o q1 q2 q3 q4 => by rw [p2 o q1 q2 q3, tp5.1 o q1 q4], fun j q1 q2 q3 => by rw [p6 j q1 q2 q3, tp5.1 149 (by decide) (by decide)], fun i hi => ?_, p4, p5, p7, p8⟩, fun j => by rw [htM]; exact hM2t j, fun j => by rw [htR]; exact hR2t j, by show 148 ≤ L1.length; omega, gF_lay hgC ha3, ?_, ?_⟩
  · have hn1 : (if M t 7 = 0 then some (0 : Int32) else (g115_between (zshr x 5) 0 9).bind fun v90 => some v90) = some (znn (dN x n)) := by
      rw [h7]
      unfold dN
      by_cases h0 : n = 0
      · subst h0; rw [if_pos (show znn 0 = 0 from rfl), if_pos rfl]; rfl
      · rw [if_neg (show ¬ znn n = 0 by rw [zl0, zn_eq (by omega) (by decide)]; exact h0), if_neg h0, show g115_between (zshr x 5) 0 9 = _ from btw (lo := 0) (hi := 9) _ (by decide) (by decide), Nat.zero_add]
        rfl
    unfold g116_w
    rw [if_pos go, hn1]
    simp only [Option.bind_some]
    rw [if_pos (gfr_of (by omega))]
    simp only [gnew]
    rw [if_pos (show gin L.length = true from Nat.blt_eq.mpr (by omega)), e1]
    simp only [Option.bind_some, zlet]
    have gnw : gnn (znn (dN x n)) = true := by
      unfold gnn
      rw [decide_eq_true_eq]
      exact ⟨by rw [zl0, zn_lt (by omega) (by omega)]; omega, by show zi (znn (dN x n)) ≤ 100000; rw [zn_zi (by omega)]; omega⟩
    rw [if_pos gnw, show L ++ [(14, 4)] ++ [(50, 16)] = L1 from rfl, if_pos (show gfr L1 = true from gfr_of (by omega)), zn_zi (show dN x n < 2147483648 by omega), show L1 ++ [(51, dN x n)] = L2 from rfl, if_pos (show gob L2 t 10 = true from gob_of (gF_lay hgA o1) (by omega)), show L1.length = aw from rfl, if_pos (show gin aw = true from Nat.blt_eq.mpr (by show L1.length < 1000000; omega))]
    rw [show g116_l207 t x (znn (dN x n)) L.length zfu 0 (zs (zw M1 aw fun _ => 0) t 9 0) (zr (zw R1 aw fun _ => none) t 11 (some aw)) L2 = _ from e3]
    simp only [Option.bind_some]
    rw [if_pos (gob_of hl3.2.2.2.2.1 (by omega)), e4]
    simp only [Option.bind_some]
    rw [e5]
    simp only [Option.bind_some]
    rw [if_pos (zgood_gF hg5 hz), c1]
    simp only [Option.bind_some]
    rw [if_pos trivial]
  · obtain ⟨k1, k2⟩ := p3 i hi
    exact ⟨k1, by rw [k2, aI_eq]⟩
  · have := wRows_gF r3 h148 (by show L.length ≤ L1.length; omega) ha3l hgC (fun hh => hh) (fun _ _ hh => hh)
    exact fun i hi => ⟨by have := (this i hi).1; omega, (this i hi).2⟩
  · obtain ⟨X, z1, z2, z3⟩ := room_add x4 x5
    exact ⟨X, z1, by omega, by omega⟩
