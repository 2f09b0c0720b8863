-- ===== a number up to 99 put behind =====
def dig (n : Nat) : List Int32 := if n < 10 then [znn (48 + n)] else [znn (48 + n / 10), znn (48 + n % 10)]
theorem dig_len (n : Nat) : (dig n).length = if n < 10 then 1 else 2 := by
  unfold dig
  split <;> rfl
theorem size_dig {n : Nat} (hn : n < 100) : g121_stringSize (znn n) = some (znn (dig n).length) := by
  have : ∀ q : Fin 100, g121_stringSize (znn q.val) = some (znn (dig q.val).length) := by decide +kernel
  exact this ⟨n, hn⟩
theorem dig_facts {n : Nat} (hn : n < 100) : ¬ znn n < 0 ∧ (-100 : Int32) < -(znn n) ∧ -(-(znn n)) = znn n ∧ zby ((zBY.getD 23 []).getD n 0) = znn (48 + n % 10) ∧ zby ((zBY.getD 24 []).getD n 0) = znn (48 + n / 10) ∧ (-(znn n) < (-9 : Int32) ↔ 10 ≤ n) ∧ (zBY.getD 23 []).length = 100 ∧ (zBY.getD 24 []).length = 100 := by
  have : ∀ q : Fin 100, ¬ znn q.val < 0 ∧ (-100 : Int32) < -(znn q.val) ∧ -(-(znn q.val)) = znn q.val ∧ zby ((zBY.getD 23 []).getD q.val 0) = znn (48 + q.val % 10) ∧ zby ((zBY.getD 24 []).getD q.val 0) = znn (48 + q.val / 10) ∧ (-(znn q.val) < (-9 : Int32) ↔ 10 ≤ q.val) ∧ (zBY.getD 23 []).length = 100 ∧ (zBY.getD 24 []).length = 100 := by decide +kernel
  exact this ⟨n, hn⟩
theorem getD_appL {a b : List Int32} {i : Nat} (h : i < a.length) : (a ++ b).getD i 0 = a.getD i 0 := by
  rw [List.getD_eq_getElem?_getD, List.getElem?_append_left h, ← List.getD_eq_getElem?_getD]
theorem getD_appR {a b : List Int32} {i : Nat} (h : a.length ≤ i) : (a ++ b).getD i 0 = b.getD (i - a.length) 0 := by
  rw [List.getD_eq_getElem?_getD, List.getElem?_append_right h, ← List.getD_eq_getElem?_getD]
theorem l22_stop {a2 f : Nat} {L : ZY} {x4 x5 : Int32} {M : ZI} (h : (-100 : Int32) < x4) : g127_l22 a2 L (f + 1) x4 x5 M = some (x4, x5, M) := by
  simp only [g127_l22]
  rw [if_pos h]
theorem zfu_succ : zfu = 99999 + 1 := rfl
theorem sb_appendI {M : ZI} {R : ZF} {L : ZY} {s v cap n : Nat} {bs : List Int32} (h : sbIs M R L s v cap bs) (hn : n < 100) (hlen : bs.length ≤ 990) (hL : L.length ≤ 800000) :
    ∃ M' R' L' v' cap', g119_append s (znn n) M R L = some (s, M', R', L') ∧ sbIs M' R' L' s v' cap' (bs ++ dig n) ∧ hFr (fun c => c = s ∨ c = v) M R L M' R' L' ∧ (v' = v ∨ v' = L.length) ∧ (∃ X, L' = L ++ X ∧ X.length ≤ 1 ∧ (X.map Prod.snd).sum ≤ 2 * (bs.length + (dig n).length)) := by
  obtain ⟨h1, h2, h3, h4, h5, h6, h7, h8, h9, h10, h11⟩ := id h
  have sl := lay_le h1
  have vl := lay_le h4
  have go : gob L s 11 = true := gob_of h1 (by omega)
  have hd := dig_len n
  have hd2 : (dig n).length ≤ 2 ∧ 1 ≤ (dig n).length := by rw [hd]; split <;> omega
  obtain ⟨M1, R1, L1, v1, c1, g1, g2, g3, g4, g5, ⟨X, g6, g7, g8⟩⟩ := sb_grow (m := bs.length + (dig n).length) h (by omega) hL
  obtain ⟨k1, k2, k3, k4, k5, k6, k7, k8, k9, k10, k11⟩ := id g2
  have hL1 : L1.length ≤ 900000 := by rw [g6]; simp; omega
  have go1 : gob L1 s 11 = true := gob_of k1 (by have := lay_le k1; omega)
  have vl1 := lay_le k4
  have sv : s ≠ v1 := by intro he; rw [← he, k1] at k4; cases k4
  obtain ⟨d1, d2, d3, d4, d5, d6, d7, d8⟩ := dig_facts hn
  have hby : zBY.length = 25 := by decide +kernel
  have gab23 : gab L1 3000023 (znn n) = true := by
    unfold gab
    rw [if_neg (by decide), show 3000023 - 3000000 = 23 from rfl, d7, (zn_zin (by omega)).mpr hn, hby]
    decide
  have gab24 : gab L1 3000024 (znn n) = true := by
    unfold gab
    rw [if_neg (by decide), show 3000024 - 3000000 = 24 from rfl, d8, (zn_zin (by omega)).mpr hn, hby]
    decide
  have gb23 : ∀ M : ZI, gbI M 3000023 n = (zBY.getD 23 []).getD n 0 := fun M => by unfold gbI; rw [if_neg (by decide)]
  have gb24 : ∀ M : ZI, gbI M 3000024 n = (zBY.getD 24 []).getD n 0 := fun M => by unfold gbI; rw [if_neg (by decide)]
  have zn' : zi (znn n) = n := zn_zi (by omega)
  have im1 : ∀ q : Nat, 1 ≤ q → znn q + (-1 : Int32) = znn (q - 1) := fun q hq => by
    have e : znn q + (-1 : Int32) = znn q - 1 := (Int32.sub_eq_add_neg _ _).symm
    rw [e, zl1, zn_sub hq]
  have ga : ∀ q : Nat, q < bs.length + (dig n).length → gar L1 v1 50 (znn q) = true := fun q hq => gar_of k4 (by omega) (by omega) (by omega)
  -- the digits
  have e127 : g127_getChars (znn n) (znn (bs.length + (dig n).length)) v1 M1 R1 L1 = some (znn bs.length, (if n < 10 then zs M1 v1 bs.length (znn (48 + n)) else zs (zs M1 v1 (bs.length + 1) (znn (48 + n % 10))) v1 bs.length (znn (48 + n / 10))), R1, L1) := by
    unfold g127_getChars
    rw [if_neg d1]
    simp only [Option.bind_some, if_true, zlet]
    rw [zfu_succ, l22_stop d2]
    simp only [Option.bind_some]
    rw [d3, if_pos gab23, im1 _ (by omega), if_pos (ga _ (by omega)), zn', gb23, d4, zn_zi (by omega)]
    by_cases h10' : n < 10
    · have e1 : (dig n).length = 1 := by rw [hd, if_pos h10']
      rw [if_neg (fun hh => by have := d6.mp hh; omega), e1]
      simp only [Option.bind_some]
      rw [if_pos h10', show bs.length + 1 - 1 = bs.length by omega, show n % 10 = n by omega]
    · have e1 : (dig n).length = 2 := by rw [hd, if_neg h10']
      rw [if_pos (d6.mpr (by omega)), if_pos gab24, e1, im1 _ (by omega), if_pos (ga _ (by omega)), gb24, d5, zn_zi (by omega)]
      simp only [Option.bind_some]
      rw [if_neg h10', show bs.length + 2 - 1 - 1 = bs.length by omega, show bs.length + 2 - 1 = bs.length + 1 by omega]
  unfold g119_append
  rw [if_pos go]
  unfold g120_append
  rw [if_pos go, h7]
  simp only [zlet]
  rw [size_dig hn]
  simp only [Option.bind_some]
  rw [zn_add, g1]
  simp only [Option.bind_some]
  rw [if_pos go1]
  unfold g126_isLatin1
  rw [if_neg (by decide), if_pos go1, if_pos k6]
  simp only [Option.bind_some]
  rw [if_neg (by decide), k3]
  simp only [Option.bind_some]
  rw [e127]
  simp only [Option.bind_some]
  rw [if_pos go1]
  have hbs : (bs ++ dig n).length = bs.length + (dig n).length := by simp
  generalize hM2 : (if n < 10 then zs M1 v1 bs.length (znn (48 + n)) else zs (zs M1 v1 (bs.length + 1) (znn (48 + n % 10))) v1 bs.length (znn (48 + n / 10))) = M2
  have mo : ∀ c, c ≠ v1 → M2 c = M1 c := fun c hc => by
    rw [← hM2]
    split
    · exact zs_df hc
    · rw [zs_df hc, zs_df hc]
  have mv : ∀ i, M2 v1 i = if bs.length ≤ i ∧ i < bs.length + (dig n).length then (dig n).getD (i - bs.length) 0 else M1 v1 i := fun i => by
    rw [← hM2]
    by_cases h10' : n < 10
    · have e1 : dig n = [znn (48 + n)] := by unfold dig; rw [if_pos h10']
      rw [if_pos h10', zs_sm, e1]
      by_cases hi : i = bs.length
      · subst hi
        rw [if_pos rfl, if_pos (by simp), Nat.sub_self]
        rfl
      · rw [if_neg hi, if_neg (by simp; omega)]
    · have e1 : dig n = [znn (48 + n / 10), znn (48 + n % 10)] := by unfold dig; rw [if_neg h10']
      rw [if_neg h10', zs_sm, zs_sm, e1]
      by_cases hi : i = bs.length
      · subst hi
        rw [if_pos rfl, if_pos (by simp), Nat.sub_self]
        rfl
      · by_cases hi2 : i = bs.length + 1
        · subst hi2
          rw [if_neg (by omega), if_pos rfl, if_pos (by simp), show bs.length + 1 - bs.length = 1 by omega]
          rfl
        · rw [if_neg hi, if_neg hi2, if_neg (by simp; omega)]
  have da : ∀ x ∈ dig n, ∃ k, k < 128 ∧ x = znn k := fun x hx => by
    unfold dig at hx
    split at hx
    · simp at hx; exact ⟨48 + n, by omega, hx⟩
    · simp at hx
      rcases hx with hx | hx
      · exact ⟨48 + n / 10, by omega, hx⟩
      · exact ⟨48 + n % 10, by omega, hx⟩
  refine ⟨zs M2 s 3 (znn (bs.length + (dig n).length)), R1, L1, v1, c1, rfl, ⟨k1, h2, k3, k4, k5, ?_, ?_, by rw [hbs]; exact g3, k9, fun i hi => ?_, fun i hi => ?_⟩, ⟨g4.1, fun c hc ho => ?_⟩, g5, ⟨X, g6, g7, g8⟩⟩
  · rw [zs_sm, if_neg (by decide), mo s sv]
    exact k6
  · rw [hbs, zs_sm, if_pos rfl]
  · rw [hbs] at hi
    rw [zs_df (Ne.symm sv), mv i]
    by_cases hib : i < bs.length
    · rw [if_neg (by omega), getD_appL hib]
      exact k10 i hib
    · rw [if_pos (by omega), getD_appR (by omega)]
  · rw [zs_df (Ne.symm sv), mv i]
    split
    · rename_i hh
      obtain ⟨k, hk, e⟩ := da _ (getD_mem (show i - bs.length < (dig n).length by omega))
      rw [e]
      exact zft_asc hk
    · exact k11 i hi
  · have cs : c ≠ s := fun he => ho (Or.inl he)
    have cv : c ≠ v1 := by
      rcases g5 with e | e
      · rw [e]; exact fun he => ho (Or.inr he)
      · rw [e]; omega
    obtain ⟨q1, q2⟩ := g4.2 c hc cs
    rw [zs_df cs, mo c cv]
    exact ⟨q1, q2⟩
