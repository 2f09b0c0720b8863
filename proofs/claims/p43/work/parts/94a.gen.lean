-- ===== a LAND stands as long as its kinds of cells do =====
theorem landIs_gen {M M' : ZI} {R R' : ZF} {L L' : ZY} {t b n k : Nat} {w : Nat → Int32} (h : landIs M R L t b w n k) (hX : ∃ X, L' = L ++ X) (hc : ∀ c x y, L[c]? = some (x, y) → (x = 13 ∨ x = 51 ∨ x = 0 ∨ x = 16) → 148 ≤ c → M' c = M c ∧ R' c = R c) (hz : zgood R L = true) (hz' : zgood R' L' = true) : landIs M' R' L' t b w n k := by
  obtain ⟨X, rfl⟩ := hX
  obtain ⟨⟨o1, o2, o3, o4, o5, o6⟩, ⟨f0, f1, f2, f3, f4, f5, f6, f7, f8, f9⟩, ⟨hb, hP⟩, ⟨a, q, a1, a2, a3, a4⟩, hB, hC, hL⟩ := id h
  obtain ⟨mt, rt⟩ := hc t _ _ o1 (by simp) o6
  obtain ⟨-, rt1⟩ := hc (t + 1) _ _ o2 (by simp) (by omega)
  obtain ⟨-, rt3⟩ := hc (t + 3) _ _ o3 (by simp) (by omega)
  obtain ⟨-, ra⟩ := hc a _ _ a3 (by simp) a1
  refine ⟨⟨lay_app o1, lay_app o2, lay_app o3, by rw [rt]; exact o4, by rw [rt]; exact o5, o6⟩, ?_, ⟨hb, fun p hp => ?_⟩, ⟨a, q, a1, by rw [rt]; exact a2, lay_app a3, fun i hi => ?_⟩, fun i hi => ?_, ?_, ?_⟩
  · unfold lndF
    rw [mt]
    exact ⟨f0, f1, f2, f3, f4, f5, f6, f7, f8, f9⟩
  · obtain ⟨p1, p2, p3⟩ := hP p hp
    refine ⟨by rw [rt1]; exact p1, lay_app p2, ?_⟩
    unfold lndQ
    rw [(hc (b + p) _ _ p2 (by simp) (by omega)).1]
    exact p3
  · obtain ⟨g1, g2, g3, g4⟩ := a4 i hi
    exact ⟨g1, by rw [ra]; exact g2, lay_app g3, fun f hf => by rw [(hc _ _ _ g3 (by simp) g1).1]; exact g4 f hf⟩
  · obtain ⟨r, r1, r2, r3, r4⟩ := hB i hi
    exact ⟨r, r1, by rw [rt3]; exact r2, lay_app r3, fun f hf => by rw [(hc _ _ _ r3 (by simp) r1).1]; exact r4 f hf⟩
  · unfold lndC at hC ⊢
    rw [rt]
    cases hd : R t 13 with
    | none => rw [hd] at hC; exact hC
    | some r =>
      rw [hd] at hC
      exact ⟨gob_app hC.1, hC.2.1, fun S hS => rule_fr ⟨X, rfl⟩ (fun c nn hcc => hc c _ _ hcc (by simp) (rule148 hz hcc)) (fun _ => hz') _ _ _ _ (hC.2.2 S hS)⟩
  · unfold lndL at hL ⊢
    rw [rt]
    cases hd : R t 14 with
    | none => rw [hd] at hL; exact hL
    | some d =>
      rw [hd] at hL
      obtain ⟨l1, l2, l3, l4⟩ := hL
      exact ⟨lay_app l1, l2, l3, by rw [(hc d _ _ l1 (by simp) l2).1]; exact l4⟩
/-- what is written has other kinds (the law's row of LANDS, texts, builders, bytes) -/
theorem landIs_kind {own : Nat → Prop} {M M' : ZI} {R R' : ZF} {L L' : ZY} {t b n k : Nat} {w : Nat → Int32} (h : landIs M R L t b w n k) (hf : hFr own M R L M' R' L') (ho : ∀ c, own c → 148 ≤ c ∧ ∃ x y, L[c]? = some (x, y) ∧ (x = 52 ∨ x = 50 ∨ x = 14 ∨ x = 15)) (hz : zgood R L = true) : landIs M' R' L' t b w n k :=
  landIs_gen h hf.1 (fun c x y hc hx _ => hf.2 c (lay_le hc) (fun hh => by
    obtain ⟨-, x', y', h1, h2⟩ := ho c hh
    rw [h1] at hc
    cases hc
    omega)) hz (zgood_fr hf (fun c hh => (ho c hh).1) hz)
/-- the row is told of only where the LAND reads it -/
theorem landIs_w {M : ZI} {R : ZF} {L : ZY} {t b n k : Nat} {w w' : Nat → Int32} (h : landIs M R L t b w n k) (hn : n ≤ 10) (hk : k ≤ 9) (hr : ruleOk w) (h1 : ∀ x, x < 578 → w' x = w x) (h2 : ∀ x, 1178 ≤ x → w' x = w x) (h3 : ∀ i f, i < zi (w 5) → f < 4 → w' (578 + 4 * i + f) = w (578 + 4 * i + f)) : landIs M R L t b w' n k := by
  obtain ⟨hO, ⟨f0, f1, f2, f3, f4, f5, f6, f7, f8, f9⟩, ⟨hb, hP⟩, -, hB, -⟩ := id h
  have hrow : rowF w w' := fun j q1 q2 => by
    by_cases hj : j < 578
    · exact h1 j hj
    · exact h2 j (by omega)
  refine landIs_step h hk hrow hr hFr_refl hO ?_ ⟨hb, fun p hp => ?_⟩ (fun i hi => ?_) rfl rfl rfl
  · unfold lndF
    rw [h1 4 (by decide), h1 0 (by decide), h1 1 (by decide), h1 49 (by decide), h1 50 (by decide), h1 2 (by decide), h1 3 (by decide), h1 48 (by decide), h1 5 (by decide), h1 6 (by decide)]
    exact ⟨f0, f1, f2, f3, f4, f5, f6, f7, f8, f9⟩
  · obtain ⟨p1, p2, p3⟩ := hP p hp
    refine ⟨p1, p2, ?_⟩
    unfold lndQ
    rw [h1 _ (by omega), h1 _ (by omega), h1 _ (by omega), h1 _ (by omega), h1 _ (by omega), h1 _ (by omega), h1 _ (by omega)]
    exact p3
  · rw [h1 5 (by decide)] at hi
    obtain ⟨r, r1, r2, r3, r4⟩ := hB i hi
    exact ⟨r, r1, r2, r3, fun f hf => by rw [r4 f hf, h3 i f hi hf]⟩
