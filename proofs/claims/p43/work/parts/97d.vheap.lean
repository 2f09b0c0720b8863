-- ===== voices drawn and told: the law's loop =====
def sbW (L0 : ZY) (M : ZI) (R : ZF) (L : ZY) (s v : Nat) (tx : List Nat) (N S : Nat) : Prop := (∃ cap, sbIs M R L s v cap (tx.map znn)) ∧ L0.length ≤ s ∧ L0.length ≤ v ∧ ∃ X, L = L0 ++ X ∧ X.length ≤ N ∧ (X.map Prod.snd).sum ≤ S
theorem sbW_of {M0 M : ZI} {R0 R : ZF} {L0 L : ZY} {s v N S : Nat} {tx : List Nat} (h : sbOn M0 R0 L0 M R L s v tx N S) : sbW L0 M R L s v tx N S := ⟨h.1, h.2.1, h.2.2.1, h.2.2.2.2⟩
theorem sbW_len {M : ZI} {R : ZF} {L0 L : ZY} {s v N S : Nat} {tx : List Nat} (h : sbW L0 M R L s v tx N S) : L.length ≤ L0.length + N ∧ L0.length ≤ L.length ∧ s < L.length ∧ v < L.length ∧ L[s]? = some (14, 4) ∧ ∃ cap, L[v]? = some (50, cap) := by
  obtain ⟨⟨cap, hs⟩, -, -, X, hX, h1, -⟩ := h
  refine ⟨by rw [hX, List.length_append]; omega, by rw [hX, List.length_append]; omega, lay_le hs.1, lay_le hs.2.2.2.1, hs.1, cap, hs.2.2.2.1⟩
theorem sbW_gF {own : Nat → Prop} {M M' : ZI} {R R' : ZF} {L0 L L' : ZY} {s v N S N2 S2 : Nat} {tx : List Nat} (h : sbW L0 M R L s v tx N S) (hg : gF own M R L M' R' L') (h1 : ¬ own s) (h2 : ¬ own v) (hX : ∃ X, L' = L ++ X ∧ X.length ≤ N2 ∧ (X.map Prod.snd).sum ≤ S2) : sbW L0 M' R' L' s v tx (N + N2) (S + S2) := by
  obtain ⟨⟨cap, a1, a2, a3, a4, a5, a6, a7, a8, a9, a10, a11⟩, b1, b2, b3⟩ := h
  obtain ⟨e1, e2⟩ := hg.2.1 s a2 (lay_le a1) h1
  obtain ⟨e3, e4⟩ := hg.2.1 v a5 (lay_le a4) h2
  exact ⟨⟨cap, gF_lay hg a1, a2, by rw [e2]; exact a3, gF_lay hg a4, a5, by rw [e1]; exact a6, by rw [e1]; exact a7, a8, a9, fun i hi => by rw [e3]; exact a10 i hi, fun i hi => by rw [e3]; exact a11 i hi⟩, b1, b2, room_add b3 hX⟩
theorem sbW_str {M : ZI} {R : ZF} {L0 L : ZY} {s v N S a av : Nat} {tx ys : List Nat} (C : Nat) (h : sbW L0 M R L s v tx N S) (hx : strIs M R L a av (ys.map znn)) (hne : av ≠ v) (hC : tx.length + ys.length ≤ C) (hC2 : C ≤ 1000) (hL : L0.length + N ≤ 700000) : ∃ M' R' L' v', g128_append s a M R L = some (s, M', R', L') ∧ sbW L0 M' R' L' s v' (tx ++ ys) (N + 1) (S + 2 * C) ∧ hFr (fun c => c = s ∨ c = v) M R L M' R' L' := by
  have hl := sbW_len h
  obtain ⟨⟨cap, h1⟩, h2, h3, h5⟩ := h
  obtain ⟨M', R', L', v', cap', e1, e2, e3, e4, ⟨X, e5, e6, e7⟩⟩ := sb_append h1 hx hne (by simp; omega) (by omega)
  exact ⟨M', R', L', v', e1, ⟨⟨cap', by rw [List.map_append]; exact e2⟩, h2, by rcases e4 with e | e <;> omega, room_add h5 ⟨X, e5, e6, by simp at e7; omega⟩⟩, e3⟩
theorem voice_made {β : Type} (K : Nat × ZI × ZF × ZY → Option β) {M : ZI} {R : ZF} {L : ZY} {p q : Nat} (hp : p < 100) (hq : q < 100) (hL : L.length ≤ 600000) (hL2 : 148 ≤ L.length) : ∃ a M' R' L', (if gfr L = true then gnew M R L 14 4 fun (r33 : Nat) (M34 : ZI) (R35 : ZF) (L36 : ZY) => if gin r33 = true then (g117_init r33 M34 R35 L36).bind fun (M38, R39, L40) => if gob L40 r33 11 = true then (g119_append r33 (znn p) M38 R39 L40).bind fun (r42, M43, R44, L45) => if gob L45 r42 11 = true then (g128_append r42 2000001 M43 R44 L45).bind fun (r47, M48, R49, L50) => if gob L50 r47 11 = true then (g119_append r47 (znn q) M48 R49 L50).bind fun (r52, M53, R54, L55) => if gob L55 r52 11 = true then (g128_append r52 2000002 M53 R54 L55).bind fun (r57, M58, R59, L60) => if gob L60 r57 11 = true then (g133_toString r57 M58 R59 L60).bind K else none else none else none else none else none else none else none) = K (a, M', R', L') ∧ strIs M' R' L' a (a + 1) ((digN p ++ ([32, 110, 97, 109, 101, 115, 32] ++ (digN q ++ [59]))).map znn) ∧ L.length ≤ a ∧ hFr (fun _ => False) M R L M' R' L' ∧ ∃ X, L' = L ++ X ∧ X.length ≤ 8 ∧ (X.map Prod.snd).sum ≤ 200 := by
  have d1 := dig_le p
  have d2 := dig_le q
  obtain ⟨N1, S1, i1, j1⟩ := sbo_new (M := M) (R := R) (L := L) (by omega) (by omega)
  obtain ⟨N2, S2, K2, w2, i2, j2, -⟩ := sbo_int 12 j1 hp (by simp) (by decide) (by omega)
  have v2 := sbo_v j2 (by omega)
  obtain ⟨N3, S3, K3, w3, i3, j3, -⟩ := sbo_str 12 j2 (str_c (M := N2) (R := S2) (L := K2) 1 [32, 110, 97, 109, 101, 115, 32] (by decide) rfl) (by omega) (by simp; omega) (by decide) (by omega)
  obtain ⟨N4, S4, K4, w4, i4, j4, -⟩ := sbo_int 12 j3 hq (by simp; omega) (by decide) (by omega)
  have v4 := sbo_v j4 (by omega)
  obtain ⟨N5, S5, K5, w5, i5, j5, -⟩ := sbo_str 12 j4 (str_c (M := N4) (R := S4) (L := K4) 2 [59] (by decide) rfl) (by omega) (by simp; omega) (by decide) (by omega)
  obtain ⟨N6, S6, K6, i6, s6, l6, f6, -, X, x1, x2, x3⟩ := sbo_fin j5 (asc_app (asc_app (asc_app (asc_app (asc_lit rfl) (asc_dig hp)) (asc_lit rfl)) (asc_dig hq)) (asc_lit rfl)) (by simp; omega) (by omega)
  refine ⟨K5.length, N6, S6, K6, ?_, ?_, l6, f6, X, x1, by omega, by simp at x3; omega⟩
  · rw [if_pos (gfr_of (by omega))]
    simp only [gnew]
    rw [if_pos (show gin L.length = true from Nat.blt_eq.mpr (by omega)), i1]
    simp only [Option.bind_some]
    rw [if_pos (sbo_gob j1 (by omega)), i2]
    simp only [Option.bind_some]
    rw [if_pos (sbo_gob j2 (by omega)), i3]
    simp only [Option.bind_some]
    rw [if_pos (sbo_gob j3 (by omega)), i4]
    simp only [Option.bind_some]
    rw [if_pos (sbo_gob j4 (by omega)), i5]
    simp only [Option.bind_some]
    rw [if_pos (sbo_gob j5 (by omega)), i6]
    rfl
  · have : ([] : List Nat) ++ digN p ++ [32, 110, 97, 109, 101, 115, 32] ++ digN q ++ [59] = digN p ++ ([32, 110, 97, 109, 101, 115, 32] ++ (digN q ++ [59])) := by simp
    rw [← this]
    exact s6
def dVx (x : Int32) (p : Nat) : Int32 := x * (znn p + 3) + 211 * znn p
def dV (x : Int32) (n p : Nat) : Option Nat := if zshr (dVx x p) 7 &&& 3 = 0 then none else if bw (zshr (dVx x p) 4) n = p then none else some (bw (zshr (dVx x p) 4) n)
theorem dV_ok {x : Int32} {n p q : Nat} (hn : 0 < n) (h : dV x n p = some q) : q < n ∧ q ≠ p := by
  unfold dV at h
  split at h
  · cases h
  · split at h
    · cases h
    · rename_i h2
      cases h
      exact ⟨bw_lt _ hn, h2⟩
theorem vTx_ok {vv : Nat → Option Nat} : ∀ m, m ≤ 10 → (∀ p q, p < m → vv p = some q → q < 100) → ascN (vTx vv m) ∧ (vTx vv m).length ≤ 12 * m
  | 0, _, _ => ⟨fun x hx => (by simp [vTx] at hx), by simp [vTx]⟩
  | m + 1, hm, hv => by
    obtain ⟨h1, h2⟩ := vTx_ok (vv := vv) m (by omega) (fun p q a b => hv p q (by omega) b)
    unfold vTx
    cases hvm : vv m with
    | none => exact ⟨h1, by dsimp only; omega⟩
    | some q =>
      have := dig_le m
      have := dig_le q
      refine ⟨asc_app (asc_dig (by omega)) (asc_app (asc_lit rfl) (asc_app (asc_dig (hv m q (by omega) hvm)) (asc_app (asc_lit rfl) h1))), ?_⟩
      simp
      omega
theorem sub_m1 (m : Nat) : znn (m + 1) - 1 = znn m := by rw [zl1, zn_sub (by omega)]; rfl
theorem add_m1 (x : Int32) : x + (-1) = x - 1 := (Int32.sub_eq_add_neg x 1).symm
