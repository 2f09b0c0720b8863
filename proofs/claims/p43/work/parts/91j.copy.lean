-- ===== a LAND's copy =====
theorem land_init {M : ZI} {R : ZF} {L : ZY} {t : Nat} (ho : L[t]? = some (13, 15)) (hL : L.length ≤ 800000) :
    ∃ M' R', g97_init t M R L = some (M', R', L ++ [(51, 10), (51, 0), (51, 150)]) ∧ (∀ c, c ≠ t → c < L.length → M' c = M c ∧ R' c = R c) ∧ (∀ j, j ≠ 3 → j ≠ 4 → M' t j = M t j) ∧ M' t 3 = 2 ∧ M' t 4 = 12 ∧ (∀ j, j ≠ 10 → j ≠ 11 → j ≠ 12 → R' t j = R t j) ∧ R' t 10 = some L.length ∧ R' t 11 = some (L.length + 1) ∧ R' t 12 = some (L.length + 2) := by
  have ht := lay_le ho
  have g0 : gob L t 10 = true := gob_of ho (by omega)
  have gi : gin t = true := Nat.blt_eq.mpr (by omega)
  have n10 : gnn 10 = true := by decide
  have n0 : gnn 0 = true := by decide
  have n150 : gnn 150 = true := by decide
  have f0 : gfr L = true := gfr_of (by omega)
  have f1 : gfr (L ++ [(51, zi 10)]) = true := gfr_of (by simp; omega)
  have f2 : gfr (L ++ [(51, zi 10)] ++ [(51, zi 0)]) = true := gfr_of (by simp; omega)
  have h1 : gob (L ++ [(51, zi 10)]) t 10 = true := gob_app g0
  have h2 : gob (L ++ [(51, zi 10)] ++ [(51, zi 0)]) t 10 = true := gob_app h1
  have h3 : gob (L ++ [(51, zi 10)] ++ [(51, zi 0)] ++ [(51, zi 150)]) t 10 = true := gob_app h2
  have i0 : gin L.length = true := Nat.blt_eq.mpr (by omega)
  have i1 : gin (L ++ [(51, zi 10)]).length = true := Nat.blt_eq.mpr (by simp; omega)
  have i2 : gin (L ++ [(51, zi 10)] ++ [(51, zi 0)]).length = true := Nat.blt_eq.mpr (by simp; omega)
  unfold g97_init
  simp only [gi, g0, zlet, n10, n0, n150, f0, gnew, h1, i0, f1, h2, i1, f2, h3, i2, if_true]
  have e : L ++ [(51, zi 10)] ++ [(51, zi 0)] ++ [(51, zi 150)] = L ++ [(51, 10), (51, 0), (51, 150)] := by
    rw [List.append_assoc, List.append_assoc]
    rfl
  have l1 : (L ++ [(51, zi 10)]).length = L.length + 1 := by simp
  have l2 : (L ++ [(51, zi 10)] ++ [(51, zi 0)]).length = L.length + 2 := by simp
  rw [e, l1, l2]
  have t0 : t ≠ L.length := by omega
  have t1 : t ≠ L.length + 1 := by omega
  have t2 : t ≠ L.length + 2 := by omega
  refine ⟨_, _, rfl, fun c hc hl => ?_, fun j h3 h4 => ?_, ?_, ?_, fun j a1 a2 a3 => ?_, ?_, ?_, ?_⟩
  · have c0 : c ≠ L.length := by omega
    have c1 : c ≠ L.length + 1 := by omega
    have c2 : c ≠ L.length + 2 := by omega
    simp only [zwF_ap, zs_ap, zr_ap, if_neg c0, if_neg c1, if_neg c2, if_neg hc, and_self]
  · simp only [zwF_ap, zs_ap, if_neg t0, if_neg t1, if_neg t2, if_true, upd_ap, if_neg h3, if_neg h4]
  · simp only [zwF_ap, zs_ap, if_neg t0, if_neg t1, if_neg t2, if_true, upd_ap]
    rfl
  · simp only [zwF_ap, zs_ap, if_neg t0, if_neg t1, if_neg t2, if_true, upd_ap]
  · simp only [zwF_ap, zr_ap, if_neg t0, if_neg t1, if_neg t2, if_true, if_neg a1, if_neg a2, if_neg a3]
  · simp only [zwF_ap, zr_ap, if_neg t0, if_neg t1, if_neg t2, if_true]
    rfl
  · simp only [zwF_ap, zr_ap, if_neg t0, if_neg t1, if_neg t2, if_true]
    rfl
  · simp only [zwF_ap, zr_ap, if_neg t0, if_neg t1, if_neg t2, if_true]
def cpL (n : Nat) : ZY := [(13, 15), (51, 10), (51, 0), (51, 150)] ++ List.replicate n (0, 7)
theorem cpL_len (n : Nat) : (cpL n).length = n + 4 := by simp [cpL]
theorem cpL_sum (n : Nat) : ((cpL n).map Prod.snd).sum = 175 + 7 * n := by simp [cpL]; omega
/-- the people's rows, cloned -/
theorem copy_rows {M : ZI} {R : ZF} {L L1 : ZY} {t b T n : Nat} {w : Nat → Int32} (hO : L[t]? = some (13, 15)) (o2 : L[t + 1]? = some (51, 10)) (o4 : R t 10 = some (t + 1)) (h7 : M t 7 = znn n) (hn : n ≤ 10) (hT : L[T]? = some (13, 15)) (T1 : L[T + 1]? = some (51, 10)) (T4 : R T 10 = some (T + 1)) (hP : ∀ p, p < n → R (t + 1) p = some (b + p) ∧ L[b + p]? = some (0, 7)) (hL : L.length ≤ 800000) (htT : t ≠ T) :
    ∃ M' R', g91_l114 t T zfu 0 M R L = some (M', R', L ++ List.replicate n (0, 7)) ∧ (∀ c, c < L.length → M' c = M c) ∧ (∀ q, q < n → M' (L.length + q) = M (b + q)) ∧ (∀ c, c ≠ T + 1 → c < L.length → R' c = R c) ∧ ∀ q, q < n → R' (T + 1) q = some (L.length + q) := by
  obtain ⟨⟨m, r, y⟩, h1, h2, h3, h4, h5, h6⟩ := zloop (fun fu (a : ZI × ZF × ZY) c => g91_l114 t T fu c a.1 a.2.1 a.2.2) n (fun i a => a.2.2 = L ++ List.replicate i (0, 7) ∧ (∀ c, c < L.length → a.1 c = M c) ∧ (∀ q, q < i → a.1 (L.length + q) = M (b + q)) ∧ (∀ c, c ≠ T + 1 → c < L.length → a.2.1 c = R c) ∧ ∀ q, q < i → a.2.1 (T + 1) q = some (L.length + q))
    (fun a => a.2.2 = L ++ List.replicate n (0, 7) ∧ (∀ c, c < L.length → a.1 c = M c) ∧ (∀ q, q < n → a.1 (L.length + q) = M (b + q)) ∧ (∀ c, c ≠ T + 1 → c < L.length → a.2.1 c = R c) ∧ ∀ q, q < n → a.2.1 (T + 1) q = some (L.length + q)) (fun fu i a hi ha => by
      obtain ⟨m, r, y⟩ := a
      obtain ⟨a1, a2, a3, a4, a5⟩ := ha
      simp only at a1 a2 a3 a4 a5
      subst a1
      left
      obtain ⟨p1, p2⟩ := hP i hi
      have yl : (L ++ List.replicate i (0, 7)).length = L.length + i := by simp
      have e1 : r T 10 = some (T + 1) := by rw [a4 T (by omega) (lay_le hT)]; exact T4
      have e2 : r t 10 = some (t + 1) := by
        rw [a4 t (by intro hh; rw [hh, T1] at hO; cases hO) (lay_le hO)]; exact o4
      have e3 : r (t + 1) i = some (b + i) := by rw [a4 (t + 1) (by omega) (lay_le o2)]; exact p1
      have e7 : m t 7 = znn n := by rw [a2 t (lay_le hO)]; exact h7
      have go := gob_app (X := List.replicate i (0, 7)) (gob_of (c := 10) hO (lay_lt hO (by omega)))
      have gT := gob_app (X := List.replicate i (0, 7)) (gob_of (c := 10) hT (lay_lt hT (by omega)))
      have o2' : (L ++ List.replicate i (0, 7))[t + 1]? = some (51, 10) := lay_app o2
      have p2' : (L ++ List.replicate i (0, 7))[b + i]? = some (0, 7) := lay_app p2
      have zp : zi (znn i) = i := zn_zi (by omega)
      have ga : gar (L ++ List.replicate i (0, 7)) (t + 1) 51 (znn i) = true := gar_of o2' (lay_lt o2' (by rw [yl]; omega)) (by omega) (by decide)
      have gk : gak (L ++ List.replicate i (0, 7)) (b + i) 0 = true := gak_of p2' (lay_lt p2' (by rw [yl]; omega))
      have gf : gfr (L ++ List.replicate i (0, 7)) = true := gfr_of (by rw [yl]; omega)
      have gl : gln (L ++ List.replicate i (0, 7)) (b + i) = 7 := gln_of p2'
      have hnew : (L ++ List.replicate i (0, 7) ++ [(0, 7)])[L.length + i]? = some (0, 7) := by rw [← yl]; exact lay_new
      have yl2 : (L ++ List.replicate i (0, 7) ++ [(0, 7)]).length ≤ 900000 := by simp; omega
      have gk2 : gak (L ++ List.replicate i (0, 7) ++ [(0, 7)]) (L.length + i) 0 = true := gak_of hnew (lay_lt hnew yl2)
      have T1' : (L ++ List.replicate i (0, 7) ++ [(0, 7)])[T + 1]? = some (51, 10) := lay_app (lay_app T1)
      have ga2 : gar (L ++ List.replicate i (0, 7) ++ [(0, 7)]) (T + 1) 51 (znn i) = true := gar_of T1' (lay_lt T1' yl2) (by omega) (by decide)
      have ge : gek (L ++ List.replicate i (0, 7) ++ [(0, 7)]) (L.length + i) 0 = true := gek_of hnew
      have T1l := lay_le T1
      refine ⟨(zw m (L.length + i) (m (b + i)), zr (zw r (L.length + i) fun _ => none) (T + 1) i (some (L.length + i)), L ++ List.replicate i (0, 7) ++ [(0, 7)]), ⟨?_, fun c hc => ?_, fun q hq => ?_, fun c hc hl => ?_, fun q hq => ?_⟩, ?_⟩
      · simp only [List.append_assoc]
        rw [List.replicate_succ']
      · simp only
        rw [zw_ne _ _ (by omega)]
        exact a2 c hc
      · simp only
        by_cases hqi : q = i
        · subst hqi
          rw [zw_self]
          exact a2 _ (lay_le p2)
        · rw [zw_ne _ _ (by omega)]
          exact a3 q (by omega)
      · have : c ≠ L.length + i := by omega
        simp only [zr_ap, zwF_ap, if_neg hc, if_neg this]
        exact a4 c hc hl
      · have : T + 1 ≠ L.length + i := by omega
        simp only [zr_ap, zwF_ap, if_true, if_neg this]
        by_cases hqi : q = i
        · rw [if_pos hqi, hqi]
        · rw [if_neg hqi]
          exact a5 q (by omega)
      · simp only [g91_l114]
        rw [if_pos go, e7, if_pos ((zn_lt (by omega) (by omega)).mpr hi), if_pos gT, e1, e2]
        simp only [Option.bind_some, ga, zp, e3, gk, gf, if_true, gcln, gl, yl, gk2, ga2, ge, zlet]
        rw [zadd1]) (fun fu a ha => by
      obtain ⟨m, r, y⟩ := a
      obtain ⟨a1, a2, a3, a4, a5⟩ := id ha
      simp only at a1 a2 a3 a4 a5
      subst a1
      have e7 : m t 7 = znn n := by rw [a2 t (lay_le hO)]; exact h7
      have go := gob_app (X := List.replicate n (0, 7)) (gob_of (c := 10) hO (lay_lt hO (by omega)))
      refine ⟨(m, r, L ++ List.replicate n (0, 7)), ha, ?_⟩
      simp only [g91_l114]
      rw [if_pos go, e7, if_neg (by rw [zn_lt (by omega) (by omega)]; omega)]) zfu 0 (M, R, L) (by omega) (by rw [zfu_eq]; omega) ⟨by simp, fun _ _ => rfl, fun q hq => absurd hq (by omega), fun _ _ _ => rfl, fun q hq => absurd hq (by omega)⟩
  simp only at h2 h3 h4 h5 h6
  subst h2
  exact ⟨m, r, h1, h3, h4, h5, h6⟩
theorem copy_lines {M : ZI} {R : ZF} {L : ZY} {t T l : Nat} (hO : L[t]? = some (13, 15)) (o3 : L[t + 3]? = some (51, 150)) (o5 : R t 12 = some (t + 3)) (h8 : M t 8 = znn l) (hl : l ≤ 150) (hT : L[T]? = some (13, 15)) (T3 : L[T + 3]? = some (51, 150)) (T5 : R T 12 = some (T + 3)) (hB : ∀ i, i < l → ∃ r, R (t + 3) i = some r ∧ L[r]? = some (0, 4)) (hL : L.length ≤ 900000) (htT : t ≠ T) :
    ∃ R', g91_l148 t T M L zfu 0 R = some R' ∧ (∀ c, c ≠ T + 3 → R' c = R c) ∧ ∀ q, q < l → R' (T + 3) q = R (t + 3) q := by
  obtain ⟨r, h1, h2, h3⟩ := zloop (fun fu (a : ZF) c => g91_l148 t T M L fu c a) l (fun i a => (∀ c, c ≠ T + 3 → a c = R c) ∧ ∀ q, q < i → a (T + 3) q = R (t + 3) q) (fun a => (∀ c, c ≠ T + 3 → a c = R c) ∧ ∀ q, q < l → a (T + 3) q = R (t + 3) q) (fun fu i a hi ha => by
      obtain ⟨a1, a2⟩ := ha
      left
      obtain ⟨r, r1, r2⟩ := hB i hi
      have e1 : a T 12 = some (T + 3) := by rw [a1 T (by omega)]; exact T5
      have e2 : a t 12 = some (t + 3) := by rw [a1 t (by intro hh; rw [hh, T3] at hO; cases hO)]; exact o5
      have e3 : a (t + 3) i = some r := by rw [a1 (t + 3) (by omega)]; exact r1
      have ga : gar L (t + 3) 51 (znn i) = true := gar_of o3 (lay_lt o3 hL) (by omega) (by decide)
      have gb : gar L (T + 3) 51 (znn i) = true := gar_of T3 (lay_lt T3 hL) (by omega) (by decide)
      have ge : gek L r 0 = true := gek_of r2
      have zp : zi (znn i) = i := zn_zi (by omega)
      refine ⟨zr a (T + 3) i (some r), ⟨fun c hc => ?_, fun q hq => ?_⟩, ?_⟩
      · simp only [zr_ap, if_neg hc]
        exact a1 c hc
      · simp only [zr_ap, zwF_ap, if_true]
        by_cases hqi : q = i
        · rw [if_pos hqi, hqi, r1]
        · rw [if_neg hqi]
          exact a2 q (by omega)
      · simp only [g91_l148]
        rw [if_pos (gob_of hO (lay_lt hO hL)), h8, if_pos ((zn_lt (by omega) (by omega)).mpr hi), if_pos (gob_of hT (lay_lt hT hL)), e1, e2]
        simp only [Option.bind_some, ga, gb, ge, zp, e3, if_true, zlet]
        rw [zadd1]) (fun fu a ha => by
      refine ⟨a, ha, ?_⟩
      simp only [g91_l148]
      rw [if_pos (gob_of hO (lay_lt hO hL)), h8, if_neg (by rw [zn_lt (by omega) (by omega)]; omega)]) zfu 0 R (by omega) (by rw [zfu_eq]; omega) ⟨fun _ _ => rfl, fun q hq => absurd hq (by omega)⟩
  exact ⟨r, h1, h2, h3⟩
theorem land_copy {M : ZI} {R : ZF} {L : ZY} {t b n k l : Nat} {w : Nat → Int32} (h : landIs M R L t b w n k) (hL : L.length ≤ 600000) (hk : k ≤ 9) (hn : n ≤ 10) (h48 : w 48 = znn n) (hl : l ≤ 150) (h5 : w 5 = znn l) (hz : zgood R L = true) :
    ∃ M' R', g91_copy t M R L = some (L.length, M', R', L ++ cpL n) ∧ landIs M' R' (L ++ cpL n) L.length (L.length + 4) w n k ∧ hFr (fun _ => False) M R L M' R' (L ++ cpL n) ∧ R' L.length 13 = R t 13 ∧ R' L.length 14 = R t 14 := by
  obtain ⟨⟨o1, o2, o3, o4, o5, o6⟩, ⟨f0, f1, f2, f3, f4, f5, f6, f7, f8, f9⟩, ⟨hb, hP⟩, ⟨a, qw, a1, a2, a3, a4⟩, hB, hC, hLw⟩ := id h
  have tl := lay_le o1
  have t1l := lay_le o2
  have t3l := lay_le o3
  have hnew : (L ++ [(13, 15)])[L.length]? = some (13, 15) := lay_new
  have ylen : (L ++ [(13, 15)]).length = L.length + 1 := by simp
  obtain ⟨M7, R8, i1, i2, i3, -, -, i6, i7, i8, i9⟩ := land_init (M := zw M L.length fun _ => 0) (R := zw R L.length fun _ => none) hnew (by rw [ylen]; omega)
  rw [ylen] at i7 i8 i9
  -- the heap after the fields
  have hcell : ∀ c, c < L.length → M7 c = M c ∧ R8 c = R c := fun c hc => by
    obtain ⟨e1, e2⟩ := i2 c (by omega) (by rw [ylen]; omega)
    rw [e1, e2, zw_ne _ _ (by omega), zw_ne _ _ (by omega)]
    exact ⟨rfl, rfl⟩
  have hT8 : ∀ j, j ≠ 10 → j ≠ 11 → j ≠ 12 → R8 L.length j = none := fun j q1 q2 q3 => by rw [i6 j q1 q2 q3, zw_self]
  have L9 : L ++ [(13, 15)] ++ [(51, 10), (51, 0), (51, 150)] = L ++ [(13, 15), (51, 10), (51, 0), (51, 150)] := by rw [List.append_assoc]; rfl
  rw [L9] at i1
  have Ll : (L ++ [(13, 15), (51, 10), (51, 0), (51, 150)]).length = L.length + 4 := by simp
  have lk : ∀ j, j < 4 → (L ++ [(13, 15), (51, 10), (51, 0), (51, 150)])[L.length + j]? = ([(13, 15), (51, 10), (51, 0), (51, 150)] : ZY)[j]? := fun j hj => by rw [List.getElem?_append_right (by omega)]; congr 1; omega
  have k0 : (L ++ [(13, 15), (51, 10), (51, 0), (51, 150)])[L.length]? = some (13, 15) := lk 0 (by decide)
  have k1 : (L ++ [(13, 15), (51, 10), (51, 0), (51, 150)])[L.length + 1]? = some (51, 10) := lk 1 (by decide)
  have k3 : (L ++ [(13, 15), (51, 10), (51, 0), (51, 150)])[L.length + 3]? = some (51, 150) := lk 3 (by decide)
  have tT : t ≠ L.length := by omega
  have g0 : gfr L = true := gfr_of (by omega)
  have g1 : gin L.length = true := Nat.blt_eq.mpr (by omega)
  have g2 : gob (L ++ [(13, 15), (51, 10), (51, 0), (51, 150)]) t 10 = true := gob_app (gob_of o1 (by omega))
  have g3 : gob (L ++ [(13, 15), (51, 10), (51, 0), (51, 150)]) L.length 10 = true := gob_of k0 (by omega)
  have e11 : R8 t 11 = some a := by rw [(hcell t tl).2]; exact a2
  have ga : gin a = true := Nat.blt_eq.mpr (by have := lay_le a3; omega)
  have eM : M7 t = M t := (hcell t tl).1
  have gio13 : gio (R t 13) = true := by
    unfold lndC at hC
    cases hd : R t 13 with
    | none => rfl
    | some r =>
      rw [hd] at hC
      obtain ⟨h1, nn, h2⟩ := gob_sp hC.1
      exact Nat.blt_eq.mpr h1
  have gio14 : gio (R t 14) = true := by
    unfold lndL at hLw
    cases hd : R t 14 with
    | none => rfl
    | some d =>
      rw [hd] at hLw
      exact Nat.blt_eq.mpr (by have := lay_le hLw.1; omega)
  unfold g91_copy
  rw [if_pos g0]
  simp only [gnew]
  rw [if_pos g1, i1]
  simp only [Option.bind_some]
  rw [if_pos g2, if_pos g3]
  simp only [zlet, e11, Option.bind_some, ga, if_true]
  -- references
  have r13 : (zr R8 L.length 11 (some a)) t 13 = R t 13 := by rw [zr_ap, if_neg tT, (hcell t tl).2]
  have r14 : (zr (zr R8 L.length 11 (some a)) L.length 13 (R t 13)) t 14 = R t 14 := by rw [zr_ap, if_neg tT, zr_ap, if_neg tT, (hcell t tl).2]
  simp only [r13, gio13, r14, gio14, if_true]
  -- fields
  generalize hM21 : (zs (zs (zs (zs (zs (zs (zs (zs (zs (zs M7 L.length 0 (M7 t 0)) L.length 1 _) L.length 2 _) L.length 3 _) L.length 4 _) L.length 5 _) L.length 6 _) L.length 7 _) L.length 8 _) L.length 9 _) = M21
  have mc : ∀ c, c < L.length → M21 c = M c := fun c hc => by
    rw [← hM21]
    have : c ≠ L.length := by omega
    simp only [zs_ap, if_neg this]
    exact (hcell c hc).1
  have mT : ∀ j, j < 10 → M21 L.length j = M t j := fun j hj => by
    rw [← hM21]
    simp only [zs_ap, upd_ap, if_true, if_neg tT, eM]
    have hj : j = 0 ∨ j = 1 ∨ j = 2 ∨ j = 3 ∨ j = 4 ∨ j = 5 ∨ j = 6 ∨ j = 7 ∨ j = 8 ∨ j = 9 := by omega
    rcases hj with rfl | rfl | rfl | rfl | rfl | rfl | rfl | rfl | rfl | rfl <;> rfl
  generalize hR28 : zr (zr (zr R8 L.length 11 (some a)) L.length 13 (R t 13)) L.length 14 (R t 14) = R28
  have rc : ∀ c, c < L.length → R28 c = R c := fun c hc => by
    rw [← hR28]
    have : c ≠ L.length := by omega
    simp only [zr_ap, if_neg this]
    exact (hcell c hc).2
  have rT10 : R28 L.length 10 = some (L.length + 1) := by rw [← hR28]; simp only [zr_ap, zwF_ap, if_true]; exact i7
  have rT11 : R28 L.length 11 = some a := by rw [← hR28]; simp only [zr_ap, zwF_ap, if_true]; rfl
  have rT12 : R28 L.length 12 = some (L.length + 3) := by rw [← hR28]; simp only [zr_ap, zwF_ap, if_true]; exact i9
  have rT13 : R28 L.length 13 = R t 13 := by rw [← hR28]; simp only [zr_ap, zwF_ap, if_true]; rfl
  have rT14 : R28 L.length 14 = R t 14 := by rw [← hR28]; simp only [zr_ap, zwF_ap, if_true]
  -- people
  obtain ⟨M49, R50, c1, c2, c3, c4, c5⟩ := copy_rows (M := M21) (R := R28) (L := L ++ [(13, 15), (51, 10), (51, 0), (51, 150)]) (L1 := L) (t := t) (b := b) (T := L.length) (n := n) (w := w) (lay_app o1) (lay_app o2) (by rw [rc t tl]; exact o4) (by rw [mc t tl, f7]; exact h48) hn k0 k1 rT10 (fun p hp => by
    obtain ⟨p1, p2, -⟩ := hP p hp
    exact ⟨by rw [rc _ t1l]; exact p1, lay_app p2⟩) (by rw [Ll]; omega) tT
  rw [Ll] at c2 c3 c4 c5
  rw [c1]
  simp only [Option.bind_some]
  have Lc : L ++ [(13, 15), (51, 10), (51, 0), (51, 150)] ++ List.replicate n (0, 7) = L ++ cpL n := by rw [List.append_assoc]; rfl
  rw [Lc]
  have k0' : (L ++ cpL n)[L.length]? = some (13, 15) := by rw [← Lc]; exact lay_app k0
  have k1' : (L ++ cpL n)[L.length + 1]? = some (51, 10) := by rw [← Lc]; exact lay_app k1
  have k3' : (L ++ cpL n)[L.length + 3]? = some (51, 150) := by rw [← Lc]; exact lay_app k3
  have zw5 : zi (w 5) = l := by rw [h5, zn_zi (by omega)]
  obtain ⟨R64, d1, d2, d3⟩ := copy_lines (M := M49) (R := R50) (L := L ++ cpL n) (t := t) (T := L.length) (l := l) (lay_app o1) (lay_app o3) (by rw [c4 t (by omega) (by omega), rc t tl]; exact o5) (by rw [c2 t (by omega), mc t tl, f8]; exact h5) hl k0' k3' (by rw [c4 L.length (by omega) (by omega)]; exact rT12) (fun i hi => by
    obtain ⟨r, r1, r2, r3, r4⟩ := hB i (by rw [zw5]; exact hi)
    exact ⟨r, by rw [c4 (t + 3) (by omega) (by omega), rc _ t3l]; exact r2, lay_app r3⟩) (by simp [cpL_len]; omega) tT
  rw [d1]
  simp only [Option.bind_some]
  have hMc : ∀ c, c < L.length → M49 c = M c := fun c hc => by rw [c2 c (by omega)]; exact mc c hc
  have hRc : ∀ c, c < L.length → R64 c = R c := fun c hc => by rw [d2 c (by omega), c4 c (by omega) (by omega)]; exact rc c hc
  have hRT : ∀ j, R64 L.length j = R28 L.length j := fun j => by rw [d2 L.length (by omega), c4 L.length (by omega) (by omega)]
  have hMT : ∀ j, j < 10 → M49 L.length j = M t j := fun j hj => by rw [c2 L.length (by omega)]; exact mT j hj
  have hfr : hFr (fun _ => False) M R L M49 R64 (L ++ cpL n) := ⟨⟨_, rfl⟩, fun c hc _ => ⟨hMc c hc, hRc c hc⟩⟩
  refine ⟨M49, R64, rfl, ⟨⟨k0', k1', k3', by rw [hRT]; exact rT10, by rw [hRT]; exact rT12, by omega⟩, ?_, ⟨by omega, fun p hp => ?_⟩, ⟨a, qw, a1, by rw [hRT]; exact rT11, lay_app a3, fun i hi => ?_⟩, fun i hi => ?_, ?_, ?_⟩, hfr, by rw [hRT]; exact rT13, by rw [hRT]; exact rT14⟩
  · unfold lndF
    rw [hMT 0 (by decide), hMT 1 (by decide), hMT 2 (by decide), hMT 3 (by decide), hMT 4 (by decide), hMT 5 (by decide), hMT 6 (by decide), hMT 7 (by decide), hMT 8 (by decide), hMT 9 (by decide)]
    exact ⟨f0, f1, f2, f3, f4, f5, f6, f7, f8, f9⟩
  · obtain ⟨p1, p2, p3⟩ := hP p hp
    refine ⟨by rw [d2 _ (by omega)]; exact c5 p hp, ?_, ?_⟩
    · rw [← Lc, List.getElem?_append_right (by rw [Ll]; omega), Ll, List.getElem?_replicate, if_pos (by omega)]
    · unfold lndQ
      rw [c3 p hp, mc _ (lay_le p2)]
      exact p3
  · obtain ⟨g1, g2, g3, g4⟩ := a4 i hi
    exact ⟨g1, by rw [hRc a (lay_le a3)]; exact g2, lay_app g3, fun f hf => by rw [hMc _ (lay_le g3)]; exact g4 f hf⟩
  · obtain ⟨r, r1, r2, r3, r4⟩ := hB i hi
    refine ⟨r, r1, ?_, lay_app r3, fun f hf => by rw [hMc _ (lay_le r3)]; exact r4 f hf⟩
    rw [d3 i (by rw [zw5] at hi; exact hi), c4 (t + 3) (by omega) (by omega), rc _ t3l]
    exact r2
  · unfold lndC at hC ⊢
    rw [hRT, rT13]
    cases hd : R t 13 with
    | none => rw [hd] at hC; exact hC
    | some r =>
      rw [hd] at hC
      exact ⟨gob_app hC.1, hC.2.1, fun S hS => rule_fr ⟨_, rfl⟩ (fun c nn hc => ⟨hMc c (lay_le hc), hRc c (lay_le hc)⟩) (zgood_fr hfr (fun _ hh => hh.elim)) _ _ _ _ (hC.2.2 S hS)⟩
  · unfold lndL at hLw ⊢
    rw [hRT, rT14]
    cases hd : R t 14 with
    | none => rw [hd] at hLw; exact hLw
    | some d =>
      rw [hd] at hLw
      obtain ⟨l1, l2, l3, l4⟩ := hLw
      refine ⟨lay_app l1, l2, Or.inl (by have := lay_le l1; omega), ?_⟩
      rw [hMc d (lay_le l1)]
      exact l4
