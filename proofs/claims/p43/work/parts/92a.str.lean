-- ===== TEXTS in the heap: what the JDK's builders and strings hold =====
def sbIs (M : ZI) (R : ZF) (L : ZY) (s v cap : Nat) (bs : List Int32) : Prop :=
  L[s]? = some (14, 4) ∧ 148 ≤ s ∧ R s 0 = some v ∧ L[v]? = some (50, cap) ∧ 148 ≤ v ∧ M s 1 = 0 ∧ M s 3 = znn bs.length ∧ bs.length ≤ cap ∧ cap ≤ 5000 ∧ (∀ i, i < bs.length → M v i = bs.getD i 0) ∧ ∀ i, i < cap → zft (M v i) = true
def strIs (M : ZI) (R : ZF) (L : ZY) (a v : Nat) (xs : List Int32) : Prop :=
  gos L a = true ∧ gsI M a 1 = 0 ∧ gsR R a 0 = some v ∧ gbk L v = true ∧ (v < 1000000 → 148 ≤ v) ∧ gbl L v = xs.length ∧ (∀ i, i < xs.length → gbI M v i = xs.getD i 0) ∧ (∀ x ∈ xs, ∃ k, k < 128 ∧ x = znn k) ∧ xs.length ≤ 1000 ∧ (a < 1000000 → 148 ≤ a) ∧ (v < 1000000 ∨ (3000000 ≤ v ∧ v < 3000000 + zSR.length))
theorem zshr0 (x : Int32) : zshr x 0 = x := by
  unfold zshr
  simp
theorem zshl0 (x : Int32) : zshl x 0 = x := by
  unfold zshl
  simp
theorem zft_asc {k : Nat} (h : k < 128) : zft (znn k) = true := by
  have : ∀ q : Fin 128, zft (znn q.val) = true := by decide +kernel
  exact this ⟨k, h⟩
theorem zby_asc {k : Nat} (h : k < 128) : zby (znn k) = znn k := by
  have : ∀ q : Fin 128, zby (znn q.val) = znn q.val := by decide +kernel
  exact this ⟨k, h⟩
theorem str_coder {M : ZI} {R : ZF} {L : ZY} {a v : Nat} {xs : List Int32} (h : strIs M R L a v xs) : g58_coder a M R L = some 0 := by
  unfold g58_coder
  rw [if_neg (by decide), if_pos h.1, h.2.1, if_pos (by decide)]
theorem str_latin {M : ZI} {R : ZF} {L : ZY} {a v : Nat} {xs : List Int32} (h : strIs M R L a v xs) : g60_isLatin1 a M R L = some 1 := by
  unfold g60_isLatin1
  rw [if_neg (by decide), if_pos h.1, h.2.1, if_pos rfl]
theorem str_length {M : ZI} {R : ZF} {L : ZY} {a v : Nat} {xs : List Int32} (h : strIs M R L a v xs) : g57_length a M R L = some (znn xs.length) := by
  obtain ⟨h1, h2, h3, h4, h5, h6, -⟩ := id h
  unfold g57_length
  rw [if_pos h1, h3]
  simp only [Option.bind_some]
  rw [if_pos h4, str_coder h, h6]
  simp only [Option.bind_some, zshr0]
  rfl
theorem getD_mem {xs : List Int32} {i : Nat} (hi : i < xs.length) : xs.getD i 0 ∈ xs := by
  rw [List.getD_eq_getElem?_getD, List.getElem?_eq_getElem hi]
  exact List.getElem_mem hi
theorem str_charAt {M : ZI} {R : ZF} {L : ZY} {a v i : Nat} {xs : List Int32} (h : strIs M R L a v xs) (hi : i < xs.length) : g59_charAt a (znn i) M R L = some (xs.getD i 0, M, R, L) := by
  obtain ⟨h1, h2, h3, h4, h5, h6, h7, h8, h9, -⟩ := id h
  obtain ⟨k, hk, e⟩ := h8 (xs.getD i 0) (getD_mem hi)
  have e63 : g63_checkIndex (znn i) (znn xs.length) = some (znn i) := by
    unfold g63_checkIndex
    simp only [zlet]
    rw [if_neg (by rw [zl0, zn_lt (by omega) (by omega)]; omega), if_pos ((zn_lt (by omega) (by omega)).mpr hi)]
  have ga : gab L v (znn i) = true := by
    unfold gab
    unfold gbk at h4
    unfold gbl at h6
    by_cases hv : v < 1000000
    · rw [if_pos hv] at h4 h6 ⊢
      obtain ⟨g1, g2⟩ := gak_sp h4
      rw [h6] at g2
      exact gar_of g2 g1 hi (by omega)
    · rw [if_neg hv] at h4 h6 ⊢
      rw [h4, h6, (zn_zin (by omega)).mpr hi]
      rfl
  have hmask : ∀ q : Fin 128, ((znn q.val &&& 255).toUInt32 % 65536).toInt32 = znn q.val ∧ gnr .char (znn q.val) = true := by decide +kernel
  obtain ⟨m1, m2⟩ := hmask ⟨k, hk⟩
  have zii : zi (znn i) = i := zn_zi (by omega)
  unfold g59_charAt g61_charAt g62_checkIndex
  rw [if_pos h1, str_latin h]
  simp only [Option.bind_some]
  rw [if_neg (by decide), h3]
  simp only [Option.bind_some]
  rw [if_pos h4, h6, show Int32.ofNat xs.length = znn xs.length from rfl, e63]
  simp only [Option.bind_some]
  rw [if_pos ga, zii, h7 i hi, e, m1, if_pos m2]
  simp only [Option.bind_some]
  rw [if_pos m2]
theorem str_const {M : ZI} {R : ZF} {L : ZY} {i : Nat} (hi : i < 23) : strIs M R L (2000000 + i) (3000000 + i) (zSR.getD i []) := by
  have hlen : zSR.length = 23 := by decide +kernel
  have hby : zBY.length = 25 := by decide +kernel
  have e1 : zBY.getD i [] = zSR.getD i [] := by
    have : ∀ q : Fin 23, zBY.getD q.val [] = zSR.getD q.val [] := by decide +kernel
    exact this ⟨i, hi⟩
  have e2 : (∀ x ∈ zSR.getD i [], ∃ k, k < 128 ∧ x = znn k) ∧ (zSR.getD i []).length ≤ 1000 := by
    have h2 : ∀ q : Fin 23, ((zSR.getD q.val []).all fun x => decide (znn (zi x) = x) && Nat.blt (zi x) 128) = true ∧ (zSR.getD q.val []).length ≤ 1000 := by decide +kernel
    obtain ⟨a1, a2⟩ := h2 ⟨i, hi⟩
    refine ⟨fun x hx => ?_, a2⟩
    have := List.all_eq_true.mp a1 x hx
    simp only [Bool.and_eq_true, decide_eq_true_eq, Nat.blt_eq] at this
    exact ⟨zi x, this.2, this.1.symm⟩
  refine ⟨?_, ?_, ?_, ?_, fun h => by omega, ?_, fun j hj => ?_, e2.1, e2.2, fun h => by omega, Or.inr ⟨by omega, by rw [hlen]; omega⟩⟩
  · unfold gos
    rw [if_neg (by omega), hlen]
    simp; omega
  · unfold gsI
    rw [if_neg (by omega)]
  · unfold gsR
    rw [if_neg (by omega)]
    congr 1
    omega
  · unfold gbk
    rw [if_neg (by omega), hby]
    simp; omega
  · unfold gbl
    rw [if_neg (by omega), show 3000000 + i - 3000000 = i by omega, e1]
  · unfold gbI
    rw [if_neg (by omega), show 3000000 + i - 3000000 = i by omega, e1]
