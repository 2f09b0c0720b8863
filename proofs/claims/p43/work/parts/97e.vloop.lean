-- ===== the loop over the voices =====
def ownR (b n c : Nat) : Prop := b ≤ c ∧ c < b + n
theorem vTx_none {vv : Nat → Option Nat} {m : Nat} (h : vv m = none) : vTx vv (m + 1) = vTx vv m ∧ vCt vv (m + 1) = vCt vv m := by
  constructor
  · rw [vTx, h]
  · rw [vCt, h]
theorem vTx_some {vv : Nat → Option Nat} {m q : Nat} (h : vv m = some q) : vTx vv (m + 1) = digN m ++ ([32, 110, 97, 109, 101, 115, 32] ++ (digN q ++ ([59] ++ vTx vv m))) ∧ vCt vv (m + 1) = vCt vv m + 1 := by
  constructor
  · rw [vTx, h]
  · rw [vCt, h]
theorem gF_base {own own' : Nat → Prop} {M0 M M1 : ZI} {R0 R R1 : ZF} {L0 L L1 : ZY} (h : gF own M0 R0 L0 M R L) (h1 : hFr own' M R L M1 R1 L1) (ho : ∀ c, own' c → L0.length ≤ c) (h148 : 148 ≤ L0.length) : gF own M0 R0 L0 M1 R1 L1 := by
  obtain ⟨⟨X, rfl⟩, g1, g2⟩ := h
  obtain ⟨⟨Y, rfl⟩, k⟩ := h1
  have hk : ∀ c, c < L0.length → M1 c = M c ∧ R1 c = R c := fun c hc => k c (by simp; omega) (fun hh => by have := ho c hh; omega)
  refine ⟨⟨X ++ Y, by simp⟩, fun c q1 hc hh => ?_, fun c hc => (hk c (by omega)).2.trans (g2 c hc)⟩
  obtain ⟨a1, a2⟩ := g1 c q1 hc hh
  obtain ⟨b1, b2⟩ := hk c hc
  exact ⟨b1.trans a1, b2.trans a2⟩
theorem voices_heap {t b n : Nat} {x : Int32} {M0 : ZI} {R0 : ZF} {L0 : ZY} (hn : n ≤ 10) (o1 : L0[t]? = some (13, 15)) (o2 : L0[t + 1]? = some (51, 10)) (o4 : R0 t 10 = some (t + 1)) (ht : 148 ≤ t) (h7 : M0 t 7 = znn n) (hb : 148 ≤ b) (hP : ∀ p, p < n → R0 (t + 1) p = some (b + p) ∧ L0[b + p]? = some (0, 7)) (hL0 : 148 ≤ L0.length) (hLb : L0.length ≤ 590000) {s : Nat} : ∀ m fuel cnt (M : ZI) (R : ZF) (L : ZY) v T N S, m < fuel → m ≤ n → cnt + m ≤ 100 → gF (ownR b n) M0 R0 L0 M R L → (∀ p j, p < n → j ≠ 5 → M (b + p) j = M0 (b + p) j) → (∀ p, m ≤ p → p < n → M (b + p) 5 = vOf (dV x n) p) → (∀ c, c < 148 → M c = M0 c) → sbW L0 M R L s v T N S → T ++ vTx (dV x n) m = vTx (dV x n) n → N + 9 * m ≤ 1000 →
    ∃ M' R' L' v', g116_l19 t x s fuel (znn cnt) (znn m - 1) M R L = some (znn (cnt + vCt (dV x n) m), M', R', L') ∧ gF (ownR b n) M0 R0 L0 M' R' L' ∧ (∀ p j, p < n → j ≠ 5 → M' (b + p) j = M0 (b + p) j) ∧ (∀ p, p < n → M' (b + p) 5 = vOf (dV x n) p) ∧ (∀ c, c < 148 → M' c = M0 c) ∧ sbW L0 M' R' L' s v' (vTx (dV x n) n) (N + 9 * m) (S + 500 * m) := by
  have hno : ∀ {L : ZY} {c y z : Nat}, (∃ X, L = L0 ++ X) → L[c]? = some (y, z) → y ≠ 0 → ¬ ownR b n c := fun {L c y z} hX hc hy ho => by
    obtain ⟨h1, h2⟩ := ho
    obtain ⟨X, rfl⟩ := hX
    have := lay_app (X := X) (hP (c - b) (by omega)).2
    rw [show b + (c - b) = c by omega, hc] at this
    cases this
    exact hy rfl
  intro m
  induction m with
  | zero =>
    intro fuel cnt M R L v T N S hf hm hc hg hr hv hcl hs hT hN
    obtain ⟨fu, rfl⟩ : ∃ k, fuel = k + 1 := ⟨fuel - 1, by omega⟩
    refine ⟨M, R, L, v, ?_, hg, hr, fun p hp => hv p (Nat.zero_le _) hp, hcl, by rw [← hT]; simpa [vTx] using hs⟩
    rw [g116_l19, if_pos (show znn 0 - 1 < 0 by decide)]
    rfl
  | succ m ih =>
    intro fuel cnt M R L v T N S hf hm hc hg hr hv hcl hs hT hN
    obtain ⟨fu, rfl⟩ : ∃ k, fuel = k + 1 := ⟨fuel - 1, by omega⟩
    have hsl := sbW_len hs
    obtain ⟨sl1, sl2, sl3, sl4, sl5, cap, sl6⟩ := hsl
    have lt := lay_le (gF_lay hg o1)
    have go : gob L t 10 = true := gob_of (gF_lay hg o1) (by omega)
    have ntR : ¬ ownR b n t := hno ⟨[], by simp⟩ o1 (by decide)
    have nt1R : ¬ ownR b n (t + 1) := hno ⟨[], by simp⟩ o2 (by decide)
    have eRt : R t = R0 t := (hg.2.1 t ht (lay_le o1) ntR).2
    have eR1 : R (t + 1) = R0 (t + 1) := (hg.2.1 (t + 1) (by omega) (lay_le o2) nt1R).2
    have eM7 : M t 7 = znn n := by rw [(hg.2.1 t ht (lay_le o1) ntR).1]; exact h7
    obtain ⟨p1, p2⟩ := hP m (by omega)
    have p2L := gF_lay hg p2
    have hbt : t ≠ b + m := by intro he; rw [he, p2] at o1; cases o1
    let M1 : ZI := zs M (b + m) 5 (-1)
    have hw1 : gF (ownR b n) M R L M1 R L := ⟨⟨[], by simp⟩, fun c _ _ hcc => ⟨by show zs M (b + m) 5 (-1) c = M c; rw [zs_ap, if_neg (fun he => hcc ⟨by omega, by omega⟩)], rfl⟩, fun _ _ => rfl⟩
    have e17 : M1 t 7 = znn n := by show zs M (b + m) 5 (-1) t 7 = _; rw [zs_df hbt]; exact eM7
    have hn1 : znn n - 1 = znn (n - 1) := by rw [zl1, zn_sub (by omega)]
    have ebt : g115_between (zshr (dVx x m) 4) 0 (znn n - 1) = some (znn (bw (zshr (dVx x m) 4) n)) := by
      rw [hn1, show g115_between (zshr (dVx x m) 4) 0 (znn (n - 1)) = _ from btw (lo := 0) (hi := n - 1) _ (by omega) (by omega), Nat.zero_add, show n - 1 - 0 + 1 = n by omega]
    have hbw := bw_lt (zshr (dVx x m) 4) (show 0 < n by omega)
    have gr1 : gar L (t + 1) 51 (znn m) = true := gar_of (gF_lay hg o2) (by have := lay_le (gF_lay hg o2); omega) (by omega) (by decide)
    have gr2 : gar L (b + m) 0 5 = true := gar7 (j := 5) p2L (by omega) (by decide)
    have ns : ¬ ownR b n s := hno hg.1 sl5 (by decide)
    have nv : ¬ ownR b n v := hno hg.1 sl6 (by decide)
    have hX0 : ∃ X, L = L ++ X ∧ X.length ≤ 0 ∧ (X.map Prod.snd).sum ≤ 0 := ⟨[], by simp, by simp, by simp⟩
    have hnone : dV x n m = none → ∃ M' R' L' v', g116_l19 t x s fu (znn cnt) (znn m + -1) M1 R L = some (znn (cnt + vCt (dV x n) (m + 1)), M', R', L') ∧ gF (ownR b n) M0 R0 L0 M' R' L' ∧ (∀ p j, p < n → j ≠ 5 → M' (b + p) j = M0 (b + p) j) ∧ (∀ p, p < n → M' (b + p) 5 = vOf (dV x n) p) ∧ (∀ c, c < 148 → M' c = M0 c) ∧ sbW L0 M' R' L' s v' (vTx (dV x n) n) (N + 9 * (m + 1)) (S + 500 * (m + 1)) := fun hd => by
      obtain ⟨M', R', L', v', e1, e2, e3, e4, e6, e5⟩ := ih fu cnt M1 R L v T N S (by omega) (by omega) (by omega) (gF_trans hg hw1) (fun p j hp hj => by
        show zs M (b + m) 5 (-1) (b + p) j = _
        by_cases hpm : p = m
        · subst hpm; rw [zs_sm, if_neg hj]; exact hr p j hp hj
        · rw [zs_df (by omega)]; exact hr p j hp hj) (fun p q1 q2 => by
        show zs M (b + m) 5 (-1) (b + p) 5 = _
        by_cases hpm : p = m
        · subst hpm
          rw [zs_sm, if_pos rfl]
          unfold vOf
          rw [hd]
        · rw [zs_df (by omega)]; exact hv p (by omega) q2) (fun c hc => by
        show zs M (b + m) 5 (-1) c = _
        rw [zs_df (by omega)]; exact hcl c hc) (sbW_gF hs hw1 ns nv hX0) (by
        rw [(vTx_none hd).1] at hT
        exact hT) (by omega)
      refine ⟨M', R', L', v', ?_, e2, e3, e4, e6, ?_⟩
      · rw [add_m1, e1, (vTx_none hd).2]
      · obtain ⟨q1, q2, q3, X, q4, q5, q6⟩ := e5
        exact ⟨q1, q2, q3, X, q4, by omega, by omega⟩
    rw [sub_m1, g116_l19, if_neg (show ¬ znn m < 0 by rw [zl0, zn_lt (by omega) (by decide)]; omega)]
    simp only [zlet]
    rw [show x * (znn m + 3) + 211 * znn m = dVx x m from rfl, if_pos go, eRt, o4]
    simp only [Option.bind_some]
    rw [if_pos gr1, zn_zi (show m < 2147483648 by omega), eR1, p1]
    simp only [Option.bind_some]
    rw [if_pos gr2]
    rw [show zi (5 : Int32) = 5 from rfl, show zs M (b + m) 5 (-1) = M1 from rfl, e17, ebt]
    simp only [Option.bind_some]
    by_cases hz3 : zshr (dVx x m) 7 &&& 3 = 0
    · rw [if_pos hz3]
      exact hnone (by unfold dV; rw [if_pos hz3])
    · rw [if_neg hz3]
      by_cases hqm : bw (zshr (dVx x m) 4) n = m
      · rw [if_pos (by rw [hqm])]
        exact hnone (by unfold dV; rw [if_neg hz3, if_pos hqm])
      · rw [if_neg (by rw [zn_eq (by omega) (by omega)]; exact hqm)]
        generalize hq : bw (zshr (dVx x m) 4) n = q at *
        have hd : dV x n m = some q := by unfold dV; rw [if_neg hz3, hq, if_neg hqm]
        let M2 : ZI := zs M1 (b + m) 5 (znn q)
        have hw2 : gF (ownR b n) M1 R L M2 R L := ⟨⟨[], by simp⟩, fun c _ _ hcc => ⟨by show zs M1 (b + m) 5 (znn q) c = M1 c; rw [zs_ap, if_neg (fun he => hcc ⟨by omega, by omega⟩)], rfl⟩, fun _ _ => rfl⟩
        obtain ⟨a, M3, R3, L3, f1, f2, f3, f4, f5⟩ := voice_made (fun (r62, M63, R64, L65) => if gob L65 s 11 = true then (g128_append s r62 M63 R64 L65).bind fun (r67, M68, R69, L70) => g116_l19 t x s fu (znn cnt + (1 : Int32)) (znn m + (-1 : Int32)) M68 R69 L70 else none) (M := M2) (R := R) (L := L) (p := m) (q := q) (by omega) (by omega) (by omega) (by omega)
        have hg3 : gF (ownR b n) M2 R L M3 R3 L3 := gF_wide (gF_hFr f4 (by omega) (fun _ hh => hh.elim)) (fun _ _ hh => hh.elim)
        have hs2 := sbW_gF (sbW_gF (sbW_gF hs hw1 ns nv hX0) hw2 ns nv hX0) hg3 ns nv f5
        have hl3 := sbW_len hs2
        have hvtx := vTx_ok (vv := dV x n) n hn (fun p q h1 h2 => by have := (dV_ok (by omega) h2).1; omega)
        have hTl : T.length + (digN m ++ ([32, 110, 97, 109, 101, 115, 32] ++ (digN q ++ [59]))).length ≤ 120 := by
          have := congrArg List.length hT
          rw [(vTx_some hd).1] at this
          simp only [List.length_append, List.length_cons, List.length_nil] at this ⊢
          omega
        obtain ⟨M4, R4, L4, v4, k1, k2, k3⟩ := sbW_str 120 hs2 f2 (by omega) hTl (by decide) (by omega)
        have hs0 : L0.length ≤ s := hs.2.1
        have hv0 : L0.length ≤ v := hs.2.2.1
        have hg03 : gF (ownR b n) M0 R0 L0 M3 R3 L3 := gF_trans (gF_trans (gF_trans hg hw1) hw2) hg3
        have hg4 : gF (ownR b n) M0 R0 L0 M4 R4 L4 := gF_base hg03 k3 (fun c hc => by rcases hc with rfl | rfl <;> assumption) hL0
        have hrow : ∀ p j, p < n → M4 (b + p) j = M2 (b + p) j := fun p j hp => by
          have q1 := (hP p hp).2
          have q2 := lay_le q1
          rw [(k3.2 (b + p) (lay_le (gF_lay hg03 q1)) (by rintro (h | h) <;> omega)).1, (f4.2 (b + p) (lay_le (gF_lay hg q1)) (fun hh => hh)).1]
        obtain ⟨M', R', L', v', e1, e2, e3, e4, e6, e5⟩ := ih fu (cnt + 1) M4 R4 L4 v4 _ _ _ (by omega) (by omega) (by omega) hg4 (fun p j hp hj => by
          rw [hrow p j hp]
          show zs (zs M (b + m) 5 (-1)) (b + m) 5 (znn q) (b + p) j = _
          by_cases hpm : p = m
          · subst hpm; rw [zs_sm, if_neg hj, zs_sm, if_neg hj]; exact hr p j hp hj
          · rw [zs_df (by omega), zs_df (by omega)]; exact hr p j hp hj) (fun p q1 q2 => by
          rw [hrow p 5 q2]
          show zs (zs M (b + m) 5 (-1)) (b + m) 5 (znn q) (b + p) 5 = _
          by_cases hpm : p = m
          · subst hpm
            rw [zs_sm, if_pos rfl]
            unfold vOf
            rw [hd]
          · rw [zs_df (by omega), zs_df (by omega)]; exact hv p (by omega) q2) (fun c hc => by
          rw [(k3.2 c (by omega) (by rintro (h | h) <;> omega)).1, (f4.2 c (by omega) (fun hh => hh)).1]
          show zs (zs M (b + m) 5 (-1)) (b + m) 5 (znn q) c = _
          rw [zs_df (by omega), zs_df (by omega)]; exact hcl c hc) k2 (by
          rw [← hT, (vTx_some hd).1]
          simp only [List.append_assoc]) (by omega)
        refine ⟨M', R', L', v', ?_, e2, e3, e4, e6, ?_⟩
        · rw [if_pos gr1, if_pos gr2]
          refine Eq.trans f1 ?_
          have hgs : gob L3 s 11 = true := gob_of (gF_lay hg3 sl5) (by omega)
          show (if gob L3 s 11 = true then (g128_append s a M3 R3 L3).bind fun x_7 => g116_l19 t x s fu (znn cnt + 1) (znn m + -1) x_7.2.fst x_7.2.2.fst x_7.2.2.snd else none) = _
          rw [if_pos hgs, k1]
          simp only [Option.bind_some]
          rw [zadd1, add_m1, e1, (vTx_some hd).2]
          congr 2
          congr 1
          omega
        · obtain ⟨q1, q2, q3, X, q4, q5, q6⟩ := e5
          exact ⟨q1, q2, q3, X, q4, by omega, by omega⟩
