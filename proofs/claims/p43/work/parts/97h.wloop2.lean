-- ===== the loop over the works =====
def wRows (q : Nat → Nat) (x : Int32) (n k lo aw : Nat) (M : ZI) (R : ZF) (L : ZY) : Prop := ∀ i, i < k → lo ≤ q i ∧ R aw i = some (q i) ∧ L[q i]? = some (0, 6) ∧ (∀ f, f < 5 → M (q i) f = znn (dW x n i f)) ∧ M (q i) 5 = aI (dA x n i)
theorem wRows_gF {own : Nat → Prop} {q : Nat → Nat} {x : Int32} {n k lo aw : Nat} {M M' : ZI} {R R' : ZF} {L L' : ZY} (h : wRows q x n k lo aw M R L) (h148 : 148 ≤ lo) (ha : lo ≤ aw) (haw : aw < L.length) (hg : gF own M R L M' R' L') (h1 : ¬ own aw) (h2 : ∀ c, L[c]? = some (0, 6) → ¬ own c) : wRows q x n k lo aw M' R' L' := fun i hi => by
  obtain ⟨g1, g2, g3, g4, g5⟩ := h i hi
  have e1 := hg.2.1 aw (by omega) haw h1
  have e2 := hg.2.1 (q i) (by omega) (lay_le g3) (h2 _ g3)
  exact ⟨g1, by rw [e1.2]; exact g2, gF_lay hg g3, fun f hf => by rw [e2.1]; exact g4 f hf, by rw [e2.1]; exact g5⟩
theorem gF_base2 {own own' : Nat → Prop} {M0 M M1 : ZI} {R0 R R1 : ZF} {L0 L L1 : ZY} (h : gF own M0 R0 L0 M R L) (h1 : gF own' M R L M1 R1 L1) (ho : ∀ c, own' c → L0.length ≤ c) : gF own M0 R0 L0 M1 R1 L1 := by
  obtain ⟨⟨X, rfl⟩, g1, g2⟩ := h
  obtain ⟨⟨Y, rfl⟩, k, k2⟩ := h1
  refine ⟨⟨X ++ Y, by simp⟩, fun c q1 hc hh => ?_, fun c hc => (k2 c hc).trans (g2 c hc)⟩
  obtain ⟨a1, a2⟩ := g1 c q1 hc hh
  obtain ⟨b1, b2⟩ := k c q1 (by simp; omega) (fun hh => by have := ho c hh; omega)
  exact ⟨b1.trans a1, b2.trans a2⟩
theorem works_heap {t n nw aw : Nat} {x : Int32} {M0 : ZI} {R0 : ZF} {L0 : ZY} (hn00 : 0 < nw → 0 < n) (hn : n ≤ 10) (hnw : nw ≤ 9) (o1 : L0[t]? = some (13, 15)) (ht : 148 ≤ t) (h7 : M0 t 7 = znn n) (h11 : R0 t 11 = some aw) (haw : L0.length ≤ aw) (hL0 : 148 ≤ L0.length) (hLb : L0.length ≤ 580000) {s : Nat} : ∀ m k fuel (M : ZI) (R : ZF) (L : ZY) v T N S (q : Nat → Nat), k + m = nw → m < fuel → gF (fun _ => False) M0 R0 L0 M R L → L[aw]? = some (51, nw) → sbW L0 M R L s v T N S → T ++ wTx (dW x n) (dA x n) m k = wTx (dW x n) (dA x n) nw 0 → T.length ≤ 44 * k → N + 35 * m ≤ 1000 → wRows q x n k L0.length aw M R L → (∀ c, c < 148 → M c = M0 c) →
    ∃ M' R' L' v' q', g116_l207 t x (znn nw) s fuel (znn k) M R L = some (M', R', L') ∧ gF (fun _ => False) M0 R0 L0 M' R' L' ∧ L'[aw]? = some (51, nw) ∧ sbW L0 M' R' L' s v' (wTx (dW x n) (dA x n) nw 0) (N + 35 * m) (S + 2500 * m) ∧ wRows q' x n nw L0.length aw M' R' L' ∧ ∀ c, c < 148 → M' c = M0 c := by
  intro m
  induction m with
  | zero =>
    intro k fuel M R L v T N S q hk hf hg ha hs hT hTl hN hw hcl
    obtain ⟨fu, rfl⟩ : ∃ k, fuel = k + 1 := ⟨fuel - 1, by omega⟩
    have : k = nw := by omega
    subst this
    refine ⟨M, R, L, v, q, ?_, hg, ha, ?_, hw, hcl⟩
    · rw [g116_l207, if_neg (by rw [zn_lt (by omega) (by omega)]; omega)]
    · have : T = wTx (dW x n) (dA x n) k 0 := by rw [← hT]; simp [wTx]
      rw [← this]
      exact hs
  | succ m ih =>
    intro k fuel M R L v T N S q hk hf hg ha hs hT hTl hN hw hcl
    obtain ⟨fu, rfl⟩ : ∃ k, fuel = k + 1 := ⟨fuel - 1, by omega⟩
    obtain ⟨sl1, sl2, sl3, sl4, sl5, cap, sl6⟩ := sbW_len hs
    have hn0 := hn00 (by omega)
    have hs0 : L0.length ≤ s := hs.2.1
    have hv0 : L0.length ≤ v := hs.2.2.1
    have lt0 := lay_le o1
    have la := lay_le ha
    obtain ⟨w0, w1, w2, w3, w4, w5, w6⟩ := dW_ok x k hn0
    -- the new row
    let Q := L.length
    let L1 : ZY := L ++ [(0, 6)]
    let M1 : ZI := zs (zs (zs (zs (zs (zs (zw M Q fun _ => 0) Q 0 (znn (dW x n k 0))) Q 1 (znn (dW x n k 1))) Q 2 (znn (dW x n k 2))) Q 3 (znn (dW x n k 3))) Q 4 (znn (dW x n k 4))) Q 5 (-1)
    let R1 : ZF := zr (zw R Q fun _ => none) aw k (some Q)
    have hL1 : L1.length = L.length + 1 := by simp [L1]
    have hnew : L1[Q]? = some (0, 6) := lay_new
    have hM1o : ∀ c, c ≠ Q → M1 c = M c := fun c hc => by
      show zs (zs (zs (zs (zs (zs (zw M Q fun _ => 0) Q 0 _) Q 1 _) Q 2 _) Q 3 _) Q 4 _) Q 5 _ c = M c
      simp only [zs_ap, zwF_ap, if_neg hc]
    have hM1q : ∀ f, f < 5 → M1 Q f = znn (dW x n k f) := fun f hf => by
      show zs (zs (zs (zs (zs (zs (zw M Q fun _ => 0) Q 0 _) Q 1 _) Q 2 _) Q 3 _) Q 4 _) Q 5 _ Q f = _
      rcases (show f = 0 ∨ f = 1 ∨ f = 2 ∨ f = 3 ∨ f = 4 by omega) with rfl | rfl | rfl | rfl | rfl <;> simp [zs_ap, upd_ap]
    have hR1o : ∀ c, c ≠ Q → c ≠ aw → R1 c = R c := fun c hc hca => by
      show zr (zw R Q fun _ => none) aw k (some Q) c = R c
      simp only [zr_ap, zwF_ap, if_neg hc, if_neg hca]
    have haQ : aw ≠ Q := by show aw ≠ L.length; omega
    have hR1a : ∀ j, R1 aw j = if j = k then some Q else R aw j := fun j => by
      show zr (zw R Q fun _ => none) aw k (some Q) aw j = _
      simp only [zr_ap, zwF_ap, if_true, if_neg haQ]
    have hg1 : gF (fun c => c = aw) M R L M1 R1 L1 := ⟨⟨_, rfl⟩, fun c _ hc hh => ⟨hM1o c (by show c ≠ L.length; omega), hR1o c (by show c ≠ L.length; omega) hh⟩, fun c hc => hR1o c (by show c ≠ L.length; omega) (by omega)⟩
    have ha1 : L1[aw]? = some (51, nw) := lay_app ha
    have hne6 : ∀ {Lx : ZY} {c : Nat}, Lx[aw]? = some (51, nw) → Lx[c]? = some (0, 6) → ¬ c = aw := fun q1 q2 he => by rw [he, q1] at q2; cases q2
    let q1 : Nat → Nat := fun i => if i = k then Q else q i
    have hw1 : ∀ i, i ≤ k → R1 aw i = some (q1 i) ∧ L1[q1 i]? = some (0, 6) ∧ M1 (q1 i) 0 = znn (dW x n i 0) := fun i hi => by
      by_cases hik : i = k
      · subst hik
        refine ⟨by rw [hR1a, if_pos rfl]; show _ = some (if i = i then Q else q i); rw [if_pos rfl], ?_, ?_⟩
        · show L1[if i = i then Q else q i]? = _
          rw [if_pos rfl]; exact hnew
        · show M1 (if i = i then Q else q i) 0 = _
          rw [if_pos rfl]; exact hM1q 0 (by decide)
      · obtain ⟨g1, g2, g3, g4, g5⟩ := hw i (by omega)
        have e : q1 i = q i := if_neg hik
        rw [e, hR1a, if_neg hik]
        refine ⟨g2, lay_app g3, ?_⟩
        rw [hM1o _ (by have := lay_le g3; show q i ≠ L.length; omega)]
        exact g4 0 (by decide)
    have htQ : t ≠ Q := by have := lay_le (gF_lay hg o1); show t ≠ L.length; omega
    have hta : t ≠ aw := by omega
    have eRt : R t = R0 t := (hg.2.1 t ht lt0 (fun hh => hh)).2
    have eMt : M t = M0 t := (hg.2.1 t ht lt0 (fun hh => hh)).1
    have go : gob L t 10 = true := gob_of (gF_lay hg o1) (by omega)
    have go1 : gob L1 t 10 = true := gob_app go
    have h11' : R1 t 11 = some aw := by rw [hR1o t htQ hta, eRt]; exact h11
    have gaw : ∀ i, i ≤ k → gar L1 aw 51 (znn i) = true := fun i hi => gar_of ha1 (by omega) (by omega) (by omega)
    have hfound := after_found (x := x) (M := M1) (R := R1) (L := L1) hn0 (show k ≤ 9 by omega) (by omega) go1 h11' gaw hw1
    let M2 : ZI := zs M1 Q 5 (aI (dA x n k))
    have hM2q : ∀ f, f < 5 → M2 Q f = znn (dW x n k f) := fun f hf => by
      show zs M1 Q 5 _ Q f = _
      rw [zs_sm, if_neg (by omega)]
      exact hM1q f hf
    have hg2 : gF (fun c => c = Q) M1 R1 L1 M2 R1 L1 := ⟨⟨[], by simp⟩, fun c _ _ hh => ⟨zs_df hh, rfl⟩, fun _ _ => rfl⟩
    -- its text
    obtain ⟨a, M3, R3, L3, f1, f2, f3, f4, f5⟩ := work_made (fun (r274, M275, R276, L277) => if gob L277 s 11 = true then (g128_append s r274 M275 R276 L277).bind fun (r279, M280, R281, L282) => g116_l207 t x (znn nw) s fu (znn k + (1 : Int32)) M280 R281 L282 else none) (M := M2) (R := R1) (L := L1) (W := dW x n k) (A := dA x n k) hnew hM2q (by omega) (by omega) (by omega) (by omega) (by omega) (fun y hy => by have := (dA_ok hy).1; omega) (by omega) (by omega)
    have hg3 : gF (fun _ => False) M2 R1 L1 M3 R3 L3 := gF_hFr f4 (by omega) (fun _ hh => hh.elim)
    have sne : s ≠ aw ∧ v ≠ aw := ⟨fun he => (by rw [he, ha] at sl5; cases sl5), fun he => (by rw [he, ha] at sl6; cases sl6)⟩
    have hs1 := sbW_gF hs hg1 sne.1 sne.2 ⟨[(0, 6)], rfl, Nat.le_refl 1, Nat.le_refl 6⟩
    have hs2 := sbW_gF hs1 hg2 (by show s ≠ L.length; omega) (by show v ≠ L.length; omega) ⟨[], by simp, Nat.le_refl 0, Nat.le_refl 0⟩
    have hs3 := sbW_gF hs2 hg3 (fun hh => hh) (fun hh => hh) f5
    obtain ⟨ok1, ok2⟩ := one_ok (W := dW x n k) (A := dA x n k) (by omega) (by omega) (by omega) (by omega) (by omega) (fun y hy => by have := (dA_ok hy).1; omega)
    obtain ⟨M4, R4, L4, v4, k1, k2, k3⟩ := sbW_str 400 hs3 f2 (by omega) (by omega) (by decide) (by omega)
    have hl3 := sbW_len hs3
    have hg13 : gF (fun c => c = aw ∨ c = Q) M R L M3 R3 L3 := gF_trans (gF_wide hg1 (fun _ _ hh => Or.inl hh)) (gF_trans (gF_wide hg2 (fun _ _ hh => Or.inr hh)) (gF_wide hg3 (fun _ _ hh => hh.elim)))
    have hg03 : gF (fun _ => False) M0 R0 L0 M3 R3 L3 := gF_base2 hg hg13 (fun c hh => by
      rcases hh with rfl | rfl
      · exact haw
      · exact sl2)
    have hg4 := gF_base hg03 k3 (fun c hc => by rcases hc with rfl | rfl <;> assumption) hL0
    have hQ0 : L0.length ≤ Q := sl2
    have hw2 : wRows q1 x n (k + 1) L0.length aw M2 R1 L1 := fun i hi => by
      by_cases hik : i = k
      · subst hik
        have e : q1 i = Q := if_pos rfl
        rw [e]
        exact ⟨hQ0, by rw [hR1a, if_pos rfl], hnew, hM2q, by show zs M1 Q 5 _ Q 5 = _; rw [zs_sm, if_pos rfl]⟩
      · obtain ⟨g1, g2, g3, g4, g5⟩ := hw i (by omega)
        have e : q1 i = q i := if_neg hik
        have hqQ : q i ≠ Q := by have := lay_le g3; show q i ≠ L.length; omega
        have eM : M2 (q i) = M (q i) := by show zs M1 Q 5 _ (q i) = _; rw [zs_df hqQ]; exact hM1o _ hqQ
        rw [e, hR1a, if_neg hik, eM]
        exact ⟨g1, g2, lay_app g3, g4, g5⟩
    have hk3g : gF (fun c => c = s ∨ c = v) M3 R3 L3 M4 R4 L4 := gF_hFr k3 (by omega) (fun c hc => by rcases hc with rfl | rfl <;> omega)
    have la3 := lay_le (gF_lay hg3 ha1)
    have hw3 := wRows_gF hw2 hL0 haw (by omega) hg3 (fun hh => hh) (fun _ _ hh => hh)
    have hw4 : wRows q1 x n (k + 1) L0.length aw M4 R4 L4 := wRows_gF hw3 hL0 haw la3 hk3g (fun hh => hh.elim (fun h => sne.1 h.symm) (fun h => sne.2 h.symm)) (fun c hc hh => by
      rcases hh with rfl | rfl
      · rw [hl3.2.2.2.2.1] at hc; cases hc
      · obtain ⟨cap', hcap⟩ := hl3.2.2.2.2.2
        rw [hcap] at hc; cases hc)
    obtain ⟨M', R', L', v', q', e1, e2, e3, e4, e5, e6⟩ := ih (k + 1) fu M4 R4 L4 v4 _ _ _ q1 (by omega) (by omega) hg4 (gF_lay hk3g (gF_lay hg3 ha1)) k2 (by rw [← hT, wTx_one]; simp only [List.append_assoc]) (by rw [List.length_append]; omega) (by omega) hw4 (fun c hc => by
      have hcQ : c ≠ Q := by show c ≠ L.length; omega
      rw [(k3.2 c (by omega) (by rintro (h | h) <;> omega)).1, (f4.2 c (by omega) (fun hh => hh)).1]
      show zs M1 Q 5 _ c = _
      rw [zs_df hcQ, hM1o c hcQ]
      exact hcl c hc)
    refine ⟨M', R', L', v', q', ?_, e2, e3, ?_, e5, e6⟩
    · have gQ : ∀ f, f < 6 → gar L1 Q 0 (znn f) = true := fun f hf => gar6 hnew (by omega) hf
      have e17 : (zw M Q fun _ => 0) t 7 = znn n := by
        rw [zw_ne _ _ htQ, eMt]; exact h7
      have hn1 : znn n - 1 = znn (n - 1) := by rw [zl1, zn_sub (by omega)]
      have hmin : zmin 2 (znn (n - 1)) = znn (min 2 (n - 1)) := by rw [zl2, zmin_z (by decide) (by omega)]
      have b0 : g115_between (dWx x k) 0 (znn (min 2 (n - 1))) = some (znn (dW x n k 0)) := by
        rw [show g115_between (dWx x k) 0 (znn (min 2 (n - 1))) = _ from btw (lo := 0) (hi := min 2 (n - 1)) _ (by omega) (by omega), Nat.zero_add]
        rfl
      have b1 : g115_between (zshr (dWx x k) 3) 1 (if zshr (dWx x k) 9 &&& 3 = 0 then 24 else 8) = some (znn (dW x n k 1)) := by
        by_cases hh : zshr (dWx x k) 9 &&& 3 = 0
        · rw [if_pos hh, show g115_between (zshr (dWx x k) 3) 1 24 = _ from btw (lo := 1) (hi := 24) _ (by omega) (by omega)]
          unfold dW
          rw [if_neg (by decide), if_pos rfl, if_pos hh]
        · rw [if_neg hh, show g115_between (zshr (dWx x k) 3) 1 8 = _ from btw (lo := 1) (hi := 8) _ (by omega) (by omega)]
          unfold dW
          rw [if_neg (by decide), if_pos rfl, if_neg hh]
      have b2 : g115_between (zshr (dWx x k) 5) 0 40 = some (znn (dW x n k 2)) := by
        rw [show g115_between (zshr (dWx x k) 5) 0 40 = _ from btw (lo := 0) (hi := 40) _ (by omega) (by omega), Nat.zero_add]
        rfl
      have b3 : g115_between (zshr (dWx x k) 6) 0 3 = some (znn (dW x n k 3)) := by
        rw [show g115_between (zshr (dWx x k) 6) 0 3 = _ from btw (lo := 0) (hi := 3) _ (by omega) (by omega), Nat.zero_add]
        rfl
      have b4 : g115_between (zshr (dWx x k) 7) 0 3 = some (znn (dW x n k 4)) := by
        rw [show g115_between (zshr (dWx x k) 7) 0 3 = _ from btw (lo := 0) (hi := 3) _ (by omega) (by omega), Nat.zero_add]
        rfl
      have e24 : (if zshr (dWx x k) 9 &&& 3 = 0 then some (24 : Int32) else some 8) = some (if zshr (dWx x k) 9 &&& 3 = 0 then 24 else 8) := by
        split <;> rfl
      rw [g116_l207, if_pos ((zn_lt (by omega) (by omega)).mpr (by omega))]
      simp only [zlet, gnew]
      rw [show x * (znn k + 5) + 223 * znn k = dWx x k from rfl, if_pos go, eRt, h11]
      simp only [Option.bind_some]
      rw [if_pos (show gnn 6 = true by decide), if_pos (gfr_of (by omega)), show zi (6 : Int32) = 6 from rfl, show L ++ [(0, 6)] = L1 from rfl, if_pos go1, show L.length = Q from rfl, e17, hn1, hmin, b0]
      simp only [Option.bind_some]
      rw [if_pos (show gar L1 Q 0 0 = true from gQ 0 (by decide)), e24]
      simp only [Option.bind_some]
      rw [b1]
      simp only [Option.bind_some]
      rw [if_pos (show gar L1 Q 0 1 = true from gQ 1 (by decide)), b2]
      simp only [Option.bind_some]
      rw [if_pos (show gar L1 Q 0 2 = true from gQ 2 (by decide)), b3]
      simp only [Option.bind_some]
      rw [if_pos (show gar L1 Q 0 3 = true from gQ 3 (by decide)), b4]
      simp only [Option.bind_some]
      have hRk : R1 aw k = some Q := by rw [hR1a, if_pos rfl]
      rw [if_pos (show gar L1 Q 0 4 = true from gQ 4 (by decide)), if_pos (show gar L1 Q 0 5 = true from gQ 5 (by decide)), if_pos (gaw k (Nat.le_refl _)), if_pos (show gek L1 Q 0 = true from gek_of hnew), zn_zi (show k < 2147483648 by omega), show zi (0 : Int32) = 0 from rfl, show zi (1 : Int32) = 1 from rfl, show zi (2 : Int32) = 2 from rfl, show zi (3 : Int32) = 3 from rfl, show zi (4 : Int32) = 4 from rfl, show zi (5 : Int32) = 5 from rfl, show zr (zw R Q fun _ => none) aw k (some Q) = R1 from rfl]
      rw [show zs (zs (zs (zs (zs (zs (zw M Q fun _ => 0) Q 0 (znn (dW x n k 0))) Q 1 (znn (dW x n k 1))) Q 2 (znn (dW x n k 2))) Q 3 (znn (dW x n k 3))) Q 4 (znn (dW x n k 4))) Q 5 (-1) = M1 from rfl, hfound]
      simp only [Option.bind_some]
      rw [if_pos go1, h11']
      simp only [Option.bind_some]
      rw [if_pos (gaw k (Nat.le_refl _)), hRk]
      simp only [Option.bind_some]
      rw [if_pos (show gar L1 Q 0 5 = true from gQ 5 (by decide)), if_pos (gaw k (Nat.le_refl _))]
      refine Eq.trans f1 ?_
      have hgs : gob L3 s 11 = true := gob_of (gF_lay hg13 sl5) (by omega)
      show (if gob L3 s 11 = true then (g128_append s a M3 R3 L3).bind fun x_7 => g116_l207 t x (znn nw) s fu (znn k + 1) x_7.2.fst x_7.2.2.fst x_7.2.2.snd else none) = _
      rw [if_pos hgs, k1]
      simp only [Option.bind_some]
      rw [zadd1, e1]
    · obtain ⟨q1, q2, q3, X, q4, q5, q6⟩ := e4
      exact ⟨q1, q2, q3, X, q4, by omega, by omega⟩
