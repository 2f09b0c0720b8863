-- ===== the rest of isSame =====
def evo (M : ZI) (R : ZF) (L : ZY) (M' : ZI) (R' : ZF) (L' : ZY) : Prop := (∃ X, L' = L ++ X) ∧ (∀ c, 148 ≤ c → c < L.length → M' c = M c) ∧ ∀ c, c < L.length → R' c = R c
theorem evo_refl {M : ZI} {R : ZF} {L : ZY} : evo M R L M R L := ⟨⟨[], by simp⟩, fun _ _ _ => rfl, fun _ _ => rfl⟩
theorem evo_trans {M M1 M2 : ZI} {R R1 R2 : ZF} {L L1 L2 : ZY} (h1 : evo M R L M1 R1 L1) (h2 : evo M1 R1 L1 M2 R2 L2) : evo M R L M2 R2 L2 := by
  obtain ⟨⟨X, rfl⟩, a1, a2⟩ := h1
  obtain ⟨⟨Y, rfl⟩, b1, b2⟩ := h2
  exact ⟨⟨X ++ Y, by simp⟩, fun c q1 q2 => (b1 c q1 (by simp; omega)).trans (a1 c q1 q2), fun c q2 => (b2 c (by simp; omega)).trans (a2 c q2)⟩
theorem zgood_evo {M M1 : ZI} {R R1 : ZF} {L L1 : ZY} (h : evo M R L M1 R1 L1) (hg : zgood R L = true) : zgood R1 L1 = true := by
  obtain ⟨h1, -, h3⟩ := h
  exact zgood_fr (own := fun _ => False) (M := fun _ _ => 0) (M1 := fun _ _ => 0) ⟨h1, fun c hc _ => ⟨rfl, h3 c hc⟩⟩ (fun _ hh => hh.elim) hg
theorem rule148 {R : ZF} {L : ZY} {c nn : Nat} (hz : zgood R L = true) (hc : L[c]? = some (16, nn)) : 148 ≤ c := by
  apply Classical.byContradiction
  intro hlt
  have h1 : zHc[c]? = some (16, nn) := by
    simp only [zgood, Bool.and_eq_true, decide_eq_true_eq] at hz
    rw [← hz.1, List.getElem?_take_of_lt (by omega)]
    exact hc
  have h2 : ∀ q ∈ zHc, q.1 ≠ 16 := by decide +kernel
  exact h2 _ (List.mem_of_getElem? h1) rfl
theorem landIs_evo {M M' : ZI} {R R' : ZF} {L L' : ZY} {t b n k : Nat} {w : Nat → Int32} (h : landIs M R L t b w n k) (he : evo M R L M' R' L') (hz : zgood R L = true) : landIs M' R' L' t b w n k := by
  have hz' := zgood_evo he hz
  obtain ⟨⟨X, rfl⟩, hM, hR⟩ := he
  obtain ⟨⟨o1, o2, o3, o4, o5, o6⟩, ⟨f0, f1, f2, f3, f4, f5, f6, f7, f8, f9⟩, ⟨hb, hP⟩, ⟨a, q, a1, a2, a3, a4⟩, hB, hC, hL⟩ := id h
  have rt := hR t (lay_le o1)
  refine ⟨⟨lay_app o1, lay_app o2, lay_app o3, by rw [rt]; exact o4, by rw [rt]; exact o5, o6⟩, ?_, ⟨hb, fun p hp => ?_⟩, ⟨a, q, a1, by rw [rt]; exact a2, lay_app a3, fun i hi => ?_⟩, fun i hi => ?_, ?_, ?_⟩
  · unfold lndF
    rw [hM t o6 (lay_le o1)]
    exact ⟨f0, f1, f2, f3, f4, f5, f6, f7, f8, f9⟩
  · obtain ⟨p1, p2, p3⟩ := hP p hp
    refine ⟨by rw [hR _ (lay_le o2)]; exact p1, lay_app p2, ?_⟩
    unfold lndQ
    rw [hM (b + p) (by omega) (lay_le p2)]
    exact p3
  · obtain ⟨g1, g2, g3, g4⟩ := a4 i hi
    exact ⟨g1, by rw [hR a (lay_le a3)]; exact g2, lay_app g3, fun f hf => by rw [hM _ g1 (lay_le g3)]; exact g4 f hf⟩
  · obtain ⟨r, r1, r2, r3, r4⟩ := hB i hi
    exact ⟨r, r1, by rw [hR _ (lay_le o3)]; exact r2, lay_app r3, fun f hf => by rw [hM _ r1 (lay_le r3)]; exact r4 f hf⟩
  · unfold lndC at hC ⊢
    rw [rt]
    cases hd : R t 13 with
    | none => rw [hd] at hC; exact hC
    | some r =>
      rw [hd] at hC
      exact ⟨gob_app hC.1, hC.2.1, fun S hS => rule_fr ⟨X, rfl⟩ (fun c nn hc => ⟨hM c (rule148 hz hc) (lay_le hc), hR c (lay_le hc)⟩) (fun _ => hz') _ _ _ _ (hC.2.2 S hS)⟩
  · unfold lndL at hL ⊢
    rw [rt]
    cases hd : R t 14 with
    | none => rw [hd] at hL; exact hL
    | some d =>
      rw [hd] at hL
      obtain ⟨l1, l2, l3, l4⟩ := hL
      exact ⟨lay_app l1, l2, l3, by rw [hM d l2 (lay_le l1)]; exact l4⟩
theorem same_l156 {Post : Option (Int32 × ZH) → Prop} {M0 B0 M : ZI} {R : ZF} {L : ZY} {t b n k c bd i : Nat} (h : landIs M0 R L t b (B0 149) n k) (hL : L.length ≤ 800000) (hz : zgood R L = true) (hok : fixOk (B0 149) n k c bd) (hi : i < k) {k63 : Unit → Option (Int32 × ZH)} (hk : Post (k63 ())) (hM : SQ M0 B0 M) : Post (g113_l156 t R L M (znn i) k63 zfu 0) := by
  have hk12 : k ≤ 12 := hok.2.2.1.1
  obtain ⟨⟨o1, -⟩, -, -, hW, -⟩ := id h
  obtain ⟨a, q, w1, w2, w3, w4⟩ := land_wrk hW (by omega) hk12
  obtain ⟨v1, v2, v3, v4⟩ := w4 i hi
  obtain ⟨a', q', a1', a2', a3', a4'⟩ := hW
  have eqa : a' = a := by rw [w1] at a2'; exact (Option.some.inj a2').symm
  subst eqa
  have eqq : q' i = q i := by have := (a4' i hi).2.1; rw [v2] at this; exact (Option.some.inj this).symm
  have hq148 : 148 ≤ q i := by rw [← eqq]; exact (a4' i hi).1
  refine kloop (fun f c (_ : Unit) => g113_l156 t R L M (znn i) k63 f c) 6 1 (by decide) (fun _ => True) Post (fun f j u hj _ => ?_) (fun f j u h1 h2 _ => ?_) zfu 0 () (by decide) (by rw [zfu_eq]; decide) trivial
  · have e1 : f95_work (znn i) (znn j) M = some (B0 149 (90 + j + 6 * i)) := ask_i (syncP_work (znn i) (znn j)) hM (fun B hB => by rw [work_r (B := B) (by rw [hB 149 (by decide) (by decide)]; exact hok) hi hj, hB 149 (by decide) (by decide)])
    have e2 : M (q i) j = B0 149 (90 + j + 6 * i) := by
      obtain ⟨B, -, -, h3⟩ := hM
      rw [h3 _ hq148]
      exact v4 j hj
    have zp : zi (znn i) = i := zn_zi (by omega)
    have zj : zi (znn j) = j := zn_zi (by omega)
    refine ⟨(), trivial, ?_⟩
    simp only [g113_l156]
    rw [if_pos (show znn j < 6 by rw [zl6, zn_lt (by omega) (by omega)]; exact hj), if_pos hz, e1]
    simp only [Option.bind_some]
    rw [if_pos (gob_of o1 (lay_lt o1 (by omega))), w1]
    simp only [Option.bind_some, v1, zp, v2, v3 j hj, zj, e2, if_true]
    rw [zadd1]
  · have hj : j = 6 := by omega
    subst hj
    simp only [g113_l156]
    rw [if_neg (by decide)]
    exact hk
theorem same_l145 {Post : Option (Int32 × ZH) → Prop} {M0 B0 M : ZI} {R : ZF} {L : ZY} {t b n k c bd : Nat} (h : landIs M0 R L t b (B0 149) n k) (hL : L.length ≤ 800000) (hz : zgood R L = true) (hok : fixOk (B0 149) n k c bd) (hmo : momOk (B0 149) n 999) {k57 : Unit → Option (Int32 × ZH)} (hk : Post (k57 ())) (hM : SQ M0 B0 M) : Post (g113_l145 t R L M k57 zfu 0) := by
  have hk12 : k ≤ 12 := hok.2.2.1.1
  obtain ⟨d, hd, h6⟩ := hmo.2.2.2.1
  obtain ⟨⟨o1, o2, o3, o4, o5, o6⟩, ⟨f0, f1, f2, f3, f4, f5, f6, f7, f8, f9⟩, -, hW, -⟩ := id h
  obtain ⟨a, q, w1, w2, w3, w4⟩ := land_wrk hW (by omega) hk12
  have go : gob L t 10 = true := gob_of o1 (lay_lt o1 (by omega))
  have e9 : M t 9 = znn d := by
    obtain ⟨B, -, -, h3⟩ := hM
    rw [h3 t o6, f9]
    exact h6
  have main : ∀ (fuel i : Nat), i ≤ k → k - i < fuel → Post (g113_l145 t R L M k57 fuel (znn i)) := by
    intro fuel
    induction fuel with
    | zero => intro i _ hh; omega
    | succ f ih =>
      intro i hi hf
      simp only [g113_l145]
      rw [if_pos go, w1]
      simp only [Option.bind_some]
      rw [if_pos w2, w3, show Int32.ofNat k = znn k from rfl]
      by_cases hlt : i < k
      · rw [if_pos ((zn_lt (by omega) (by omega)).mpr hlt)]
        refine same_l156 h hL hz hok hlt ?_ hM
        have e6 : f95_work (znn i) 6 M = some (if d.testBit i = true then 1 else 0) := ask_i (syncP_work (znn i) 6) hM (fun B hB => work_r6 (B := B) (by rw [hB 149 (by decide) (by decide)]; exact hok) hlt hd (by rw [hB 149 (by decide) (by decide)]; exact h6))
        have e7 : f95_work (znn i) 7 M = some (-2) := ask_i (syncP_work (znn i) 7) hM (fun B hB => work_r7 (B := B) (by rw [hB 149 (by decide) (by decide)]; exact hok) hlt)
        rw [if_pos hz, e6]
        simp only [Option.bind_some]
        rw [if_pos go, e9, zbit hd (by omega), if_pos rfl, e7]
        simp only [Option.bind_some, if_true]
        rw [zadd1]
        exact ih (i + 1) (by omega) (by omega)
      · rw [if_neg (by rw [zn_lt (by omega) (by omega)]; exact hlt)]
        exact hk
  exact main zfu 0 (by omega) (by rw [zfu_eq]; omega)
theorem same_l237 {Post : Option (Int32 × ZH) → Prop} {M0 B0 M : ZI} {R : ZF} {L : ZY} {t b n k l i : Nat} (h : landIs M0 R L t b (B0 149) n k) (hL : L.length ≤ 800000) (hz : zgood R L = true) (hl : l ≤ 150) (h5 : B0 149 5 = znn l) (hi : i < l) {k86 : Unit → Option (Int32 × ZH)} (hk : Post (k86 ())) (hM : SQ M0 B0 M) : Post (g113_l237 t R L M (znn i) k86 zfu 0) := by
  obtain ⟨⟨o1, o2, o3, o4, o5, o6⟩, -, -, -, hB, -⟩ := id h
  obtain ⟨r, r1, r2, r3, r4⟩ := hB i (by rw [h5, zn_zi (by omega)]; exact hi)
  refine kloop (fun f c (_ : Unit) => g113_l237 t R L M (znn i) k86 f c) 4 1 (by decide) (fun _ => True) Post (fun f j u hj _ => ?_) (fun f j u h1 h2 _ => ?_) zfu 0 () (by decide) (by rw [zfu_eq]; decide) trivial
  · have e1 : f96_book (znn i) (znn j) M = some (B0 149 (578 + 4 * i + j)) := ask_i (syncP_book (znn i) (znn j)) hM (fun B hB => by rw [book_r (B := B) hl (by rw [hB 149 (by decide) (by decide)]; exact h5) hi hj, hB 149 (by decide) (by decide)])
    have e2 : M r j = B0 149 (578 + 4 * i + j) := by
      obtain ⟨B, -, -, h3⟩ := hM
      rw [h3 _ r1]
      exact r4 j hj
    have zp : zi (znn i) = i := zn_zi (by omega)
    have zj : zi (znn j) = j := zn_zi (by omega)
    have ga : gar L (t + 3) 51 (znn i) = true := gar_of o3 (lay_lt o3 (by omega)) (by omega) (by decide)
    have gr : gar L r 0 (znn j) = true := gar4 r3 (by omega) hj
    refine ⟨(), trivial, ?_⟩
    simp only [g113_l237]
    rw [if_pos (show znn j < 4 by rw [zl4, zn_lt (by omega) (by omega)]; exact hj), if_pos hz, e1]
    simp only [Option.bind_some]
    rw [if_pos (gob_of o1 (lay_lt o1 (by omega))), o5]
    simp only [Option.bind_some, ga, zp, r2, gr, zj, e2, if_true]
    rw [zadd1]
  · have hj : j = 4 := by omega
    subst hj
    simp only [g113_l237]
    rw [if_neg (by decide)]
    exact hk
theorem same_l227 {Post : Option (Int32 × ZH) → Prop} {M0 B0 M : ZI} {R : ZF} {L : ZY} {t b n k l : Nat} (h : landIs M0 R L t b (B0 149) n k) (hL : L.length ≤ 800000) (hz : zgood R L = true) (hl : l ≤ 150) (h5 : B0 149 5 = znn l) {k82 : Unit → Option (Int32 × ZH)} (hk : Post (k82 ())) (hM : SQ M0 B0 M) : Post (g113_l227 t R L M k82 zfu 0) := by
  obtain ⟨⟨o1, o2, o3, o4, o5, o6⟩, ⟨f0, f1, f2, f3, f4, f5, f6, f7, f8, f9⟩, -⟩ := id h
  have go : gob L t 10 = true := gob_of o1 (lay_lt o1 (by omega))
  have e8 : M t 8 = znn l := by
    obtain ⟨B, -, -, h3⟩ := hM
    rw [h3 t o6, f8]
    exact h5
  have main : ∀ (fuel i : Nat), i ≤ l → l - i < fuel → Post (g113_l227 t R L M k82 fuel (znn i)) := by
    intro fuel
    induction fuel with
    | zero => intro i _ hh; omega
    | succ f ih =>
      intro i hi hf
      simp only [g113_l227]
      rw [if_pos go, e8]
      by_cases hlt : i < l
      · rw [if_pos ((zn_lt (by omega) (by omega)).mpr hlt)]
        refine same_l237 h hL hz hl h5 hlt ?_ hM
        rw [zadd1]
        exact ih (i + 1) (by omega) (by omega)
      · rw [if_neg (by rw [zn_lt (by omega) (by omega)]; exact hlt)]
        exact hk
  exact main zfu 0 (by omega) (by rw [zfu_eq]; omega)
