-- ===== one more person in a LAND =====
theorem landIs_push {M M' : ZI} {R R' : ZF} {L : ZY} {t b p k : Nat} {w w' : Nat → Int32} (h : landIs M R L t b w p k) (hp : p < 10) (hk : k ≤ 9) (hr : ruleOk w) (hz : zgood R L = true) (hb : L.length = b + p) (hM : ∀ c, 148 ≤ c → c < L.length → c ≠ t → M' c = M c) (hMt : ∀ j, j ≠ 7 → M' t j = M t j) (hMt7 : M' t 7 = w' 48) (hR : ∀ c, c < L.length → c ≠ t + 1 → R' c = R c) (hR1 : ∀ j, R' (t + 1) j = if j = p then some (b + p) else R (t + 1) j) (hQ : lndQ M' (b + p) w' p) (hw : ∀ j, j ≠ 48 → j ≠ 17 + p → j ≠ 60 + p → j ≠ 70 + p → j ≠ 27 + p → j ≠ 37 + p → j ≠ 7 + p → j ≠ 80 + p → w' j = w j) : landIs M' R' (L ++ [(0, 7)]) t b w' (p + 1) k := by
  obtain ⟨⟨o1, o2, o3, o4, o5, o6⟩, ⟨f0, f1, f2, f3, f4, f5, f6, f7, f8, f9⟩, ⟨hb', hP⟩, ⟨a, q, a1, a2, a3, a4⟩, hB, hC, hL⟩ := id h
  have lt := lay_le o1
  have l1 := lay_le o2
  have l3 := lay_le o3
  have eRt : R' t = R t := hR t lt (by omega)
  have hne : ∀ {c x y : Nat}, L[c]? = some (x, y) → x ≠ 51 → c ≠ t + 1 := fun hc hx he => by rw [he, o2] at hc; cases hc; exact hx rfl
  have hnt : ∀ {c x y : Nat}, L[c]? = some (x, y) → x ≠ 13 → c ≠ t := fun hc hx he => by rw [he, o1] at hc; cases hc; exact hx rfl
  have hz' : zgood R' (L ++ [(0, 7)]) = true := zgood_gF (own := fun c => c = t ∨ c = t + 1) (M := M) (M' := M') ⟨⟨_, rfl⟩, fun c q1 hc hh => ⟨hM c q1 hc (fun he => hh (Or.inl he)), hR c hc (fun he => hh (Or.inr he))⟩, fun c hc => hR c (by omega) (by omega)⟩ hz
  refine ⟨⟨lay_app o1, lay_app o2, lay_app o3, by rw [eRt]; exact o4, by rw [eRt]; exact o5, o6⟩, ?_, ⟨hb', fun i hi => ?_⟩, ⟨a, q, a1, by rw [eRt]; exact a2, lay_app a3, fun i hi => ?_⟩, fun i hi => ?_, ?_, ?_⟩
  · unfold lndF
    rw [hMt 0 (by decide), hMt 1 (by decide), hMt 2 (by decide), hMt 3 (by decide), hMt 4 (by decide), hMt 5 (by decide), hMt 6 (by decide), hMt7, hMt 8 (by decide), hMt 9 (by decide), hw 4 (by decide) (by omega) (by omega) (by omega) (by omega) (by omega) (by omega) (by omega), hw 0 (by decide) (by omega) (by omega) (by omega) (by omega) (by omega) (by omega) (by omega), hw 1 (by decide) (by omega) (by omega) (by omega) (by omega) (by omega) (by omega) (by omega), hw 49 (by decide) (by omega) (by omega) (by omega) (by omega) (by omega) (by omega) (by omega), hw 50 (by decide) (by omega) (by omega) (by omega) (by omega) (by omega) (by omega) (by omega), hw 2 (by decide) (by omega) (by omega) (by omega) (by omega) (by omega) (by omega) (by omega), hw 3 (by decide) (by omega) (by omega) (by omega) (by omega) (by omega) (by omega) (by omega), hw 5 (by decide) (by omega) (by omega) (by omega) (by omega) (by omega) (by omega) (by omega), hw 6 (by decide) (by omega) (by omega) (by omega) (by omega) (by omega) (by omega) (by omega)]
    exact ⟨f0, f1, f2, f3, f4, f5, f6, rfl, f8, f9⟩
  · by_cases hip : i = p
    · subst hip
      exact ⟨by rw [hR1, if_pos rfl], by rw [← hb]; exact lay_new, hQ⟩
    · obtain ⟨p1, p2, p3⟩ := hP i (by omega)
      refine ⟨by rw [hR1, if_neg hip]; exact p1, lay_app p2, ?_⟩
      unfold lndQ at p3 ⊢
      rw [hM (b + i) (by omega) (lay_le p2) (hnt p2 (by decide)), hw (17 + i) (by omega) (by omega) (by omega) (by omega) (by omega) (by omega) (by omega) (by omega), hw (60 + i) (by omega) (by omega) (by omega) (by omega) (by omega) (by omega) (by omega) (by omega), hw (70 + i) (by omega) (by omega) (by omega) (by omega) (by omega) (by omega) (by omega) (by omega), hw (27 + i) (by omega) (by omega) (by omega) (by omega) (by omega) (by omega) (by omega) (by omega), hw (37 + i) (by omega) (by omega) (by omega) (by omega) (by omega) (by omega) (by omega) (by omega), hw (80 + i) (by omega) (by omega) (by omega) (by omega) (by omega) (by omega) (by omega) (by omega), hw (7 + i) (by omega) (by omega) (by omega) (by omega) (by omega) (by omega) (by omega) (by omega)]
      exact p3
  · obtain ⟨g1, g2, g3, g4⟩ := a4 i hi
    have ha1 : a ≠ t + 1 := fun he => by
      rw [he, o2] at a3
      cases a3
      omega
    exact ⟨g1, by rw [hR a (lay_le a3) ha1]; exact g2, lay_app g3, fun f hf => by rw [hM (q i) g1 (lay_le g3) (hnt g3 (by decide)), g4 f hf, hw _ (by omega) (by omega) (by omega) (by omega) (by omega) (by omega) (by omega) (by omega)]⟩
  · rw [hw 5 (by decide) (by omega) (by omega) (by omega) (by omega) (by omega) (by omega) (by omega)] at hi
    obtain ⟨r, r1, r2, r3, r4⟩ := hB i hi
    exact ⟨r, r1, by rw [hR (t + 3) l3 (by omega)]; exact r2, lay_app r3, fun f hf => by rw [hM r r1 (lay_le r3) (hnt r3 (by decide)), r4 f hf, hw _ (by omega) (by omega) (by omega) (by omega) (by omega) (by omega) (by omega) (by omega)]⟩
  · have hs : ∀ S, sSat w' S = sSat w S := fun S => sSat_on hr (hw 54 (by decide) (by omega) (by omega) (by omega) (by omega) (by omega) (by omega) (by omega)) (fun i hi => hw _ (by omega) (by omega) (by omega) (by omega) (by omega) (by omega) (by omega) (by omega)) S
    unfold lndC at hC ⊢
    rw [eRt]
    cases hd : R t 13 with
    | none =>
      rw [hd] at hC
      intro S hS
      rw [hs]
      exact hC S hS
    | some r =>
      rw [hd] at hC
      refine ⟨gob_app hC.1, hC.2.1, fun S hS => ?_⟩
      rw [hs]
      exact rule_fr ⟨_, rfl⟩ (fun c nn hc => ⟨hM c (rule148 hz hc) (lay_le hc) (hnt hc (by decide)), hR c (lay_le hc) (hne hc (by decide))⟩) (fun _ => hz') _ _ _ _ (hC.2.2 S hS)
  · unfold lndL at hL ⊢
    rw [eRt]
    cases hd : R t 14 with
    | none =>
      rw [hd] at hL
      simp only at hL ⊢
      rw [hw 58 (by decide) (by omega) (by omega) (by omega) (by omega) (by omega) (by omega) (by omega)]
      exact hL
    | some d =>
      rw [hd] at hL
      obtain ⟨l1, l2, l3, l4⟩ := hL
      have := lay_le l1
      refine ⟨lay_app l1, l2, by omega, ?_⟩
      rw [hM d l2 this (hnt l1 (by decide))]
      intro v v1 v2 v3
      exact l4 v (fun x hx => (v1 x hx).trans (hw x (by omega) (by omega) (by omega) (by omega) (by omega) (by omega) (by omega) (by omega))) (v2.trans (hw 58 (by decide) (by omega) (by omega) (by omega) (by omega) (by omega) (by omega) (by omega))) v3
