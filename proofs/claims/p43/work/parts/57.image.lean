-- ===== image =====
theorem zc_sm (M : ZI) (o b n j : Nat) : (zc M o b 0 0 n) o j = if j < n then M b j else M o j := by rw [zc_ap, if_pos rfl, cpy_ap]
theorem zc_df {M : ZI} {o b s d n o' : Nat} (h : o' ≠ o) : (zc M o b s d n) o' = M o' := by rw [zc_ap, if_neg h]
theorem sRun_B {F w w' : Nat → Int32} (h : ∀ j, j < 2064 → w' j = w j) : ∀ (k i : Nat) (st : List Int32), i + k ≤ 400 → sRun F w' k i st = sRun F w k i st
  | 0, _, _, _ => rfl
  | k + 1, i, st, hi => by
    unfold sRun
    rw [h (1244 + 2 * i) (by omega), h (1245 + 2 * i) (by omega)]
    congr 1
    funext s
    exact sRun_B h k (i + 1) s (by omega)
theorem lawOk_B {w w' : Nat → Int32} {c : Nat} (h : ∀ j, j < 2064 → w' j = w j) (hk : lawOk w c) : lawOk w' c := by
  obtain ⟨l1, L, l2, l3, l4⟩ := hk
  refine ⟨l1, L, l2, by rw [h 58 (by decide)]; exact l3, fun i hi => ?_⟩
  obtain ⟨f, m, t, q1, q2, q3, q4, q5, q6, q7, q8, q9⟩ := l4 i hi
  refine ⟨f, m, t, q1, q2, q3, by rw [h _ (by omega)]; exact q4, by rw [h _ (by omega)]; exact q5, by rw [h _ (by omega)]; exact q6, by rw [h _ (by omega)]; exact q7, fun F => ?_, ?_⟩
  · rw [sRun_B h _ _ _ (by omega)]; exact q8 F
  · rcases q9 with q9 | q9
    · exact Or.inl q9
    · exact Or.inr fun F => by rw [sRun_B h _ _ _ (by omega)]; exact q9 F
theorem lawIs_B {A : ZI} {t c : Nat} {w w' : Nat → Int32} (h : ∀ j, j < 2064 → w' j = w j) (hok : lawOk w c) (hk : lawIs A t w c) : lawIs A t w' c := by
  obtain ⟨g1, g2, g3, g4⟩ := hk
  obtain ⟨l1, L, l2, l3, -⟩ := hok
  refine ⟨by rw [h 58 (by decide)]; exact g1, g2, fun j hj => by rw [h _ (by omega), h _ (by omega)]; exact g3 j hj, fun i hi => ?_⟩
  rw [h 58 (by decide)] at hi
  have hi' := hi
  rw [l3, zn_zi (by omega)] at hi'
  rw [h _ (by omega), h _ (by omega), h _ (by omega), h _ (by omega)]
  exact g4 i hi
theorem fix_B {A : ZI} {t : Nat} {w w' : Nat → Int32} {n k c b : Nat} (h : ∀ j, j < 2064 → w' j = w j) (hf : fixIs A t w n k c b) (hok : fixOk w n k c b) : fixIs A t w' n k c b ∧ fixOk w' n k c b := by
  obtain ⟨⟨f1, f1'⟩, f2, f3, f4, f5⟩ := hf
  obtain ⟨o1, o2, o3, o4, o5, o6⟩ := hok
  have hk12 := o3.1
  have hn10 := o1.1
  refine ⟨⟨⟨?_, fun p hp => ?_⟩, ?_, ?_, ?_, ?_⟩, ⟨?_, ?_, ?_, ?_, o5, ?_⟩⟩
  · rw [h 48 (by decide), h 49 (by decide), h 50 (by decide), h 56 (by decide), h 57 (by decide)]; exact f1
  · rw [h _ (by omega), h _ (by omega), h _ (by omega)]
    exact f1' p hp
  · exact lawIs_B h o2 f2
  · exact wrkIs_W (h 52 (by decide)) (fun j q1 q2 => h j (by omega)) hk12 f3
  · exact ruleIs_C (h 53 (by decide)) (h 54 (by decide)) (fun j q1 q2 => h j (by omega)) o4 f4
  · exact bidIs_D (h 55 (by decide)) (fun j q1 q2 => h j (by omega)) o5 f5
  · obtain ⟨p1, p2, p3, p4, p5, p6, p7, p8⟩ := o1
    refine ⟨p1, by rw [h 48 (by decide)]; exact p2, by rw [h 49 (by decide)]; exact p3, by rw [h 50 (by decide)]; exact p4, by rw [h 56 (by decide)]; exact p5, by rw [h 57 (by decide)]; exact p6, by rw [h 51 (by decide), voiceN_P n (fun p hp => h _ (by omega))]; exact p7, fun p hp => ?_⟩
    rw [h _ (by omega), h _ (by omega), h _ (by omega)]
    exact p8 p hp
  · exact lawOk_B h o2
  · exact wrkOk_W (h 52 (by decide)) (fun j q1 q2 => h j (by omega)) (Nat.le_refl _) o3
  · exact ruleOk_C (h 53 (by decide)) (h 54 (by decide)) (fun j q1 q2 => h j (by omega)) o4
  · rw [h 55 (by decide)]; exact o6
theorem cp_book {A : ZI} {t a : Nat} {w : Nat → Int32} (hd : a + 5 ≤ t ∨ t + 5 ≤ a) (h : bookIs A a w) : ∃ A', f141_copy t a A = some A' ∧ bookIs A' t w ∧ ∀ o, ¬ (t ≤ o ∧ o ≤ t + 4) → A' o = A o := by
  refine ⟨_, rfl, fun i hi => ?_, fun o ho => ?_⟩
  · simp (disch := omega) only [zc_sm, zc_df, if_pos hi]
    exact h i hi
  · simp (disch := omega) only [zc_df]
theorem cp_code {A : ZI} {t a : Nat} (hd : a + 5 ≤ t ∨ t + 5 ≤ a) : ∃ A', f82_copy t a A = some A' ∧ A' t 3 = A a 3 ∧ (∀ j, j < 400 → A' (t + 1) j = A (a + 1) j ∧ A' (t + 2) j = A (a + 2) j) ∧ ∀ o, ¬ (t ≤ o ∧ o ≤ t + 2) → A' o = A o := by
  refine ⟨_, rfl, ?_, fun i hi => ?_, fun o ho => ?_⟩
  · simp (disch := omega) only [zs_sm, zc_df, ↓reduceIte]
  · simp (disch := omega) only [zs_df, zc_sm, zc_df, if_pos hi]
    exact ⟨trivial, trivial⟩
  · simp (disch := omega) only [zc_df, zs_df]
theorem cp_law {A : ZI} {t a c : Nat} {w : Nat → Int32} (hd : a + 10 ≤ t ∨ t + 10 ≤ a) (hok : lawOk w c) (h : lawIs A a w c) : ∃ A', f81_copy t a A = some A' ∧ lawIs A' t w c ∧ ∀ o, ¬ (t ≤ o ∧ o ≤ t + 8) → A' o = A o := by
  obtain ⟨A1, e1, e2, e3, e4⟩ := cp_code (A := A) (t := t + 1) (a := a + 1) (by omega)
  obtain ⟨g1, g2, g3, g4⟩ := h
  obtain ⟨l1, L, l2, l3, -⟩ := hok
  unfold f81_copy
  rw [e1]
  refine ⟨_, rfl, ⟨?_, ?_, fun j hj => ?_, fun i hi => ?_⟩, fun o ho => ?_⟩
  · simp (disch := omega) only [zs_sm, zc_df, ↓reduceIte]
    rw [e4 a (by omega)]
    exact g1
  · simp (disch := omega) only [zs_df, zc_df]
    rw [e2]
    exact g2
  · simp (disch := omega) only [zs_df, zc_df]
    rw [(e3 j (by omega)).1, (e3 j (by omega)).2]
    exact g3 j hj
  · have hi' := hi
    rw [l3, zn_zi (by omega)] at hi'
    have hi16 : i < 16 := by omega
    simp (disch := omega) only [zs_df, zc_sm, zc_df, if_pos hi16]
    rw [e4 _ (by omega), e4 _ (by omega), e4 _ (by omega), e4 _ (by omega)]
    exact g4 i hi
  · simp (disch := omega) only [zc_df, zs_df]
    exact e4 o (by omega)
theorem cp_wrk {A : ZI} {t a k : Nat} {w : Nat → Int32} (hd : a + 10 ≤ t ∨ t + 10 ≤ a) (hk : k ≤ 12) (h : wrkIs A a w k) : ∃ A', f88_copy t a A = some A' ∧ wrkIs A' t w k ∧ ∀ o, ¬ (t ≤ o ∧ o ≤ t + 6) → A' o = A o := by
  obtain ⟨h1, h2⟩ := h
  refine ⟨_, rfl, ⟨?_, fun i hi => ?_⟩, fun o ho => ?_⟩
  · simp (disch := omega) only [zs_sm, zc_df, ↓reduceIte]
    exact h1
  · have hi12 : i < 12 := by omega
    simp (disch := omega) only [zs_df, zc_sm, zc_df, if_pos hi12]
    exact h2 i hi
  · simp (disch := omega) only [zc_df, zs_df]
theorem cp_rule {A : ZI} {t a : Nat} {w : Nat → Int32} (hd : a + 10 ≤ t ∨ t + 10 ≤ a) (hok : ruleOk w) (h : ruleIs A a w) : ∃ A', f90_copy t a A = some A' ∧ ruleIs A' t w ∧ ∀ o, ¬ (t ≤ o ∧ o ≤ t + 3) → A' o = A o := by
  obtain ⟨A1, e1, e2, e3, e4⟩ := cp_code (A := A) (t := t + 1) (a := a + 1) (by omega)
  obtain ⟨g1, g2, g3⟩ := h
  obtain ⟨rl, r1, r2, -⟩ := hok
  unfold f90_copy
  rw [e1]
  refine ⟨_, rfl, ⟨?_, ?_, fun j hj => ?_⟩, fun o ho => ?_⟩
  · simp (disch := omega) only [zs_sm, ↓reduceIte]
    rw [e4 a (by omega)]
    exact g1
  · simp (disch := omega) only [zs_df]
    rw [e2]
    exact g2
  · have hj' := hj
    rw [r2, zn_zi (by omega)] at hj'
    simp (disch := omega) only [zs_df]
    rw [(e3 j (by omega)).1, (e3 j (by omega)).2]
    exact g3 j hj
  · simp (disch := omega) only [zs_df]
    exact e4 o (by omega)
theorem cp_bid {A : ZI} {t a b : Nat} {w : Nat → Int32} (hd : a + 10 ≤ t ∨ t + 10 ≤ a) (hb : b ≤ 8) (h : bidIs A a w b) : ∃ A', f142_copy t a A = some A' ∧ bidIs A' t w b ∧ ∀ o, ¬ (t ≤ o ∧ o ≤ t + 2) → A' o = A o := by
  obtain ⟨h1, h2⟩ := h
  refine ⟨_, rfl, ⟨?_, fun i hi => ?_⟩, fun o ho => ?_⟩
  · simp (disch := omega) only [zs_sm, zc_df, ↓reduceIte]
    exact h1
  · have hi8 : i < 8 := by omega
    simp (disch := omega) only [zs_df, zc_sm, zc_df, if_pos hi8]
    exact h2 i hi
  · simp (disch := omega) only [zc_df, zs_df]
def pplCp (t a : Nat) (A6 : ZI) : Option ZI := zlet (zc A6 (t + 36) (a + 36) 0 0 10) fun (M7 : ZI) => zlet (zc M7 (t + 37) (a + 37) 0 0 10) fun (M8 : ZI) => zlet (zc M8 (t + 38) (a + 38) 0 0 10) fun (M9 : ZI) => zlet (zs M9 t 11 (M9 a 11)) fun (M10 : ZI) => zlet (zs M10 t 12 (M10 a 12)) fun (M11 : ZI) => zlet (zs M11 t 13 (M11 a 13)) fun (M12 : ZI) => zlet (zs M12 t 14 (M12 a 14)) fun (M13 : ZI) => zlet (zs M13 t 15 (M13 a 15)) fun (M14 : ZI) => some M14
theorem cp_ppl {A : ZI} {t a n : Nat} {w : Nat → Int32} (hd : a + 41 ≤ t ∨ t + 41 ≤ a) (hn10 : n ≤ 10) (h : pplIs A a w n) : ∃ A', pplCp t a A = some A' ∧ pplIs A' t w n ∧ ∀ o, o ≠ t → ¬ (t + 36 ≤ o ∧ o ≤ t + 38) → A' o = A o := by
  obtain ⟨p1, p2⟩ := h
  refine ⟨_, rfl, ⟨?_, fun p hp => ?_⟩, fun o q1 q2 => ?_⟩
  · simp (disch := omega) only [zs_sm, zs_df, zc_df, ↓reduceIte, Nat.reduceEqDiff]
    exact p1
  · have hp10 : p < 10 := by omega
    simp (disch := omega) only [zs_df, zc_sm, zc_df, if_pos hp10]
    exact p2 p hp
  · simp (disch := omega) only [zs_df, zc_df]
theorem f140_eq (t a : Nat) (M : ZI) : f140_copy t a M = (f21_copy (t + 1) (a + 1) M).bind fun M1 => (f141_copy (t + 6) (a + 6) M1).bind fun M2 => (f81_copy (t + 11) (a + 11) M2).bind fun M3 => (f88_copy (t + 20) (a + 20) M3).bind fun M4 => (f90_copy (t + 28) (a + 28) M4).bind fun M5 => (f142_copy (t + 33) (a + 33) M5).bind fun M6 => pplCp t a M6 := rfl
theorem cp_realm {A : ZI} {t a n k c b : Nat} {w : Nat → Int32} (hd : a + 41 ≤ t ∨ t + 41 ≤ a) (hf : fixIs A a w n k c b) (hok : fixOk w n k c b) (hm : momIs A (a + 1) w n) (hb : bookIs A (a + 6) w) : ∃ A', f140_copy t a A = some A' ∧ fixIs A' t w n k c b ∧ momIs A' (t + 1) w n ∧ bookIs A' (t + 6) w ∧ ∀ o, ¬ (t ≤ o ∧ o ≤ t + 38) → A' o = A o := by
  obtain ⟨⟨p1, p2⟩, f2, f3, f4, f5⟩ := hf
  obtain ⟨o1, o2, o3, o4, o5, o6⟩ := hok
  have hn10 := o1.1
  have hk12 := o3.1
  obtain ⟨A1, a1, a2, a3⟩ := copy_mom (t := t + 1) hm hn10 (by omega)
  obtain ⟨A2, b1, b2, b3⟩ := cp_book (A := A1) (t := t + 6) (a := a + 6) (by omega) (bookIs_of hb (fun o q1 q2 => a3 o (by omega)))
  have s2 : ∀ o, ¬ (t + 1 ≤ o ∧ o ≤ t + 10) → A2 o = A o := fun o ho => (b3 o (by omega)).trans (a3 o (by omega))
  obtain ⟨A3, c1, c2, c3⟩ := cp_law (A := A2) (t := t + 11) (a := a + 11) (by omega) o2 (lawIs_of f2 (fun o q => s2 o (by omega)))
  have s3 : ∀ o, ¬ (t + 1 ≤ o ∧ o ≤ t + 19) → A3 o = A o := fun o ho => (c3 o (by omega)).trans (s2 o (by omega))
  obtain ⟨A4, d1, d2, d3⟩ := cp_wrk (A := A3) (t := t + 20) (a := a + 20) (by omega) hk12 (wrkIs_of f3 (by rw [s3 _ (by omega)]) (fun o q1 q2 => s3 o (by omega)))
  have s4 : ∀ o, ¬ (t + 1 ≤ o ∧ o ≤ t + 26) → A4 o = A o := fun o ho => (d3 o (by omega)).trans (s3 o (by omega))
  obtain ⟨A5, e1, e2, e3⟩ := cp_rule (A := A4) (t := t + 28) (a := a + 28) (by omega) o4 (ruleIs_of f4 (fun o q1 q2 => s4 o (by omega)))
  have s5 : ∀ o, ¬ (t + 1 ≤ o ∧ o ≤ t + 31) → A5 o = A o := fun o ho => (e3 o (by omega)).trans (s4 o (by omega))
  obtain ⟨A6, g1, g2, g3⟩ := cp_bid (A := A5) (t := t + 33) (a := a + 33) (by omega) o5 (bidIs_of f5 (fun o q1 q2 => s5 o (by omega)))
  have s6 : ∀ o, ¬ (t + 1 ≤ o ∧ o ≤ t + 35) → A6 o = A o := fun o ho => (g3 o (by omega)).trans (s5 o (by omega))
  obtain ⟨A', k1, k2, k3⟩ := cp_ppl (A := A6) (t := t) (a := a) (w := w) (n := n) hd hn10 (pplIs_of ⟨p1, p2⟩ (fun o q => s6 o (by omega)))
  have k1' : f140_copy t a A = some A' := by
    rw [f140_eq, show f21_copy (t + 1) (a + 1) A = _ from a1, Option.bind_some, b1, Option.bind_some, c1, Option.bind_some, d1, Option.bind_some, e1, Option.bind_some, g1, Option.bind_some, k1]
  refine ⟨A', k1', ⟨k2, ?_, ?_, ?_, ?_⟩, ?_, ?_, fun o ho => (k3 o (by omega) (by omega)).trans (s6 o (by omega))⟩
  · exact lawIs_of c2 (fun o q => (k3 o (by omega) (by omega)).trans ((g3 o (by omega)).trans ((e3 o (by omega)).trans (d3 o (by omega)))))
  · have q : ∀ o, t + 20 ≤ o → o ≤ t + 26 → A' o = A4 o := fun o q1 q2 => (k3 o (by omega) (by omega)).trans ((g3 o (by omega)).trans (e3 o (by omega)))
    exact wrkIs_of d2 (by rw [q _ (by omega) (by omega)]) (fun o q1 q2 => q o (by omega) (by omega))
  · exact ruleIs_of e2 (fun o q1 q2 => (k3 o (by omega) (by omega)).trans (g3 o (by omega)))
  · exact bidIs_of g2 (fun o q1 q2 => k3 o (by omega) (by omega))
  · exact momIs_of a2 (fun o q1 q2 => (k3 o (by omega) (by omega)).trans ((g3 o (by omega)).trans ((e3 o (by omega)).trans ((d3 o (by omega)).trans ((c3 o (by omega)).trans (b3 o (by omega)))))))
  · exact bookIs_of b2 (fun o q1 q2 => (k3 o (by omega) (by omega)).trans ((g3 o (by omega)).trans ((e3 o (by omega)).trans ((d3 o (by omega)).trans (c3 o (by omega))))))
