-- ===== a drawn council told =====
theorem say_tx {M : ZI} {R : ZF} {L : ZY} {B : ZI} {a av : Nat} {tx : List Nat} (hlen : tx.length ≤ 400) (ha : ascN tx) (hs : strIs M R L a av (tx.map znn)) (hz : zgood R L = true) (hL : L.length ≤ 700000) (hI : Inv2 M B) (h19 : B 148 19 = 0) : ∃ M' R' L' B', g145_say a M R L = some (M', R', L') ∧ evo M R L M' R' L' ∧ (∃ X, L' = L ++ X ∧ X.length ≤ 20 ∧ (X.map Prod.snd).sum ≤ 100) ∧ Inv2 M' B' ∧ tpB B B' ∧ ∃ b, tapB b tx.length ∧ onB B' b tx.length ∧ restAt b tx.length 0 tx := by
  obtain ⟨M', R', L', B', e1, e2, e3, e4, e5, e6, e7⟩ := say_ok (by simpa using hlen) hs hz hL (zg_len hz) hI h19
  refine ⟨M', R', L', B', e1, e2, e3, e4, e5, fun i => tx.getD i 0, ⟨hlen, fun i hi => ?_⟩, ⟨by rw [e6, List.length_map], fun i hi => ?_⟩, ⟨fun j hj => by rw [Nat.zero_add], by omega⟩⟩
  · have := ha (tx.getD i 0) (by
      rw [List.getD_eq_getElem?_getD, List.getElem?_eq_getElem hi]
      exact List.getElem_mem _)
    show tx.getD i 0 < 256
    omega
  · rw [e7 i (by simpa using hi)]
    simp only [List.getD_eq_getElem?_getD, List.getElem?_map, List.getElem?_eq_getElem hi, Option.map_some, Option.getD_some]
theorem Inv2_rule {M B : ZI} (h : Inv2 M B) : ruleOk (B 149) := by
  obtain ⟨n, k, c, b, h0, -⟩ := h
  exact h0.2.1.2.2.2.1
def couB (B B' : ZI) : Prop := (∀ o, o ≠ 148 → o ≠ 149 → o ≠ 157 → o ≠ 158 → B' o = B o) ∧ (∀ j, j ≠ 53 → j ≠ 54 → ¬ (162 ≤ j ∧ j < 562) → B' 149 j = B 149 j) ∧ B' 148 19 = 0 ∧ B' 148 4 = B 148 4
theorem landIs_counc {M M' B B' : ZI} {R R' : ZF} {L L' : ZY} {t b n k : Nat} (h : landIs M R L t b (B 149) n k) (hn : n ≤ 10) (hk : k ≤ 9) (hB : couB B B') (hg : gF (fun c => c = t) M R L M' R' L') (hMt : M' t = M t) (hRt : ∀ j, j ≠ 13 → R' t j = R t j) (hC : lndC M' R' L' t (B' 149)) : landIs M' R' L' t b (B' 149) n k := by
  obtain ⟨⟨o1, o2, o3, o4, o5, o6⟩, ⟨f0, f1, f2, f3, f4, f5, f6, f7, f8, f9⟩, ⟨hb, hP⟩, hW, -, -, -⟩ := id h
  have hw := hB.2.1
  have hg2 : gF (own2 t b n) M R L M' R' L' := gF_wide hg (fun c _ hc => Or.inl hc)
  refine landIs_upd h hn hg2 (fun j hj => hRt j (by omega)) ?_ (fun p hp => ?_) (lndW_keep hW h.1 (fun p hp => (hP p hp).2.1) hg2 (hRt 11 (by decide)) (fun i f hi hf => hw _ (by omega) (by omega) (by omega))) hC (hw 5 (by decide) (by decide) (by decide)) (fun i f hi hf => hw _ (by omega) (by omega) (by omega)) (hw 58 (by decide) (by decide) (by decide)) (fun x hx => hw x (by omega) (by omega) (by omega))
  · unfold lndF
    rw [hMt, hw 4 (by decide) (by decide) (by decide), hw 0 (by decide) (by decide) (by decide), hw 1 (by decide) (by decide) (by decide), hw 49 (by decide) (by decide) (by decide), hw 50 (by decide) (by decide) (by decide), hw 2 (by decide) (by decide) (by decide), hw 3 (by decide) (by decide) (by decide), hw 48 (by decide) (by decide) (by decide), hw 5 (by decide) (by decide) (by decide), hw 6 (by decide) (by decide) (by decide)]
    exact ⟨f0, f1, f2, f3, f4, f5, f6, f7, f8, f9⟩
  · obtain ⟨-, p2, p3⟩ := hP p hp
    have hne : b + p ≠ t := by intro he; rw [he, o1] at p2; cases p2
    unfold lndQ at p3 ⊢
    rw [(hg.2.1 (b + p) (by omega) (lay_le p2) hne).1, hw _ (by omega) (by omega) (by omega), hw _ (by omega) (by omega) (by omega), hw _ (by omega) (by omega) (by omega), hw _ (by omega) (by omega) (by omega), hw _ (by omega) (by omega) (by omega), hw _ (by omega) (by omega) (by omega), hw _ (by omega) (by omega) (by omega)]
    exact p3
theorem sSat_none {w : Nat → Int32} (h : w 54 = 0) (S : Nat) : sSat w S = 1 := by
  unfold sSat
  rw [h]
  rfl
theorem cTx_ok {n : Nat} (h0 : 0 < n) (hn : n ≤ 10) (x : Int32) (c : Bool) : ascN (cTx n x c) ∧ (cTx n x c).length ≤ 125 := by
  obtain ⟨h1, h2⟩ := rTx_ok h0 hn 3 (x, 0)
  have h3 := par_len (c && decide (1 < nK (x, 0))) (rTx n 3 (x, 0))
  have h4 : rLn 3 = 119 := rfl
  exact ⟨par_asc h1, by unfold cTx; omega⟩
/-- has no council, or has the drawn one -/
theorem council_none {M B : ZI} {R : ZF} {L : ZY} {t b n k : Nat} {x : Int32} (hI : Inv2 M B) (h : landIs M R L t b (B 149) n k) (hz : zgood R L = true) (hL : L.length ≤ 500000) (h48 : B 149 48 = znn n) (hn : n ≤ 10) (hk : k ≤ 9) (h19 : B 148 19 = 0) (hx : n = 0 ∨ zshr x 6 &&& 3 = 0) : ∃ M' R' B', g146_council t x M R L = some (1, M', R', L) ∧ Inv2 M' B' ∧ landIs M' R' L t b (B' 149) n k ∧ gF (fun c => c = t) M R L M' R' L ∧ couB B B' ∧ (∀ j, j ≠ 13 → R' t j = R t j) ∧ M' t = M t := by
  obtain ⟨⟨o1, o2, o3, o4, o5, o6⟩, hF, -, -, -, -, -⟩ := id h
  have go : gob L t 10 = true := gob_of o1 (lay_lt o1 (by omega))
  have f7 : M t 7 = znn n := hF.2.2.2.2.2.2.2.1.trans h48
  obtain ⟨B', p1, p2, p3, p4, p5, p6, p7⟩ := text_none (B := B) (b := fun _ => 0) (t := 0) ⟨by decide, fun i hi => by omega⟩ ⟨h19, fun i hi => by omega⟩ ⟨fun j hj => by simp at hj, rfl⟩
  obtain ⟨M', c1, c2, c3⟩ := call_r (sync_text 3) hI p1
  have hg1 : gF (fun c => c = t) M R L M (zr R t 13 none) L := ⟨⟨[], by simp⟩, fun c _ _ hc => ⟨rfl, by simp only [zr_ap, if_neg hc]⟩, fun c hc => by simp only [zr_ap, if_neg (show ¬ c = t by omega)]⟩
  have hg : gF (fun c => c = t) M R L M' (zr R t 13 none) L := gF_trans hg1 (gF_call c3)
  have hz1 : zgood (zr R t 13 none) L = true := zgood_gF hg1 hz
  have e13 : (zr R t 13 none) t 13 = none := by simp only [zr_ap, zwF_ap, if_true]
  have hj : ∀ j, j ≠ 13 → (zr R t 13 none) t j = R t j := fun j hj => by simp only [zr_ap, zwF_ap, if_true, if_neg hj]
  have hB : couB B B' := ⟨fun o q1 q2 q3 q4 => p2 o q1 q2, p5, p6, p7⟩
  refine ⟨M', zr R t 13 none, B', ?_, c2, landIs_counc h hn hk hB hg (c3 t o6) hj ?_, hg, hB, hj, c3 t o6⟩
  · unfold g146_council
    have ew : (if M t 7 = 0 then some (none, M, R, L) else (if zshr x 6 &&& 3 = 0 then some (none, M, R, L) else (g147_rule zgr x (M t 7) 0 M R L).bind fun (r2, M3, R4, L5) => some ((some r2), M3, R4, L5)) : Option (Option Nat × ZI × ZF × ZY)) = some (none, M, R, L) := by
      rw [f7]
      rcases hx with rfl | hx
      · rw [if_pos (show znn 0 = 0 from rfl)]
      · by_cases h0 : znn n = 0
        · rw [if_pos h0]
        · rw [if_neg h0, if_pos hx]
    rw [if_pos go, ew]
    simp only [Option.bind_some]
    rw [if_pos go, if_pos (show gio none = true from rfl)]
    simp only [zlet]
    rw [e13]
    simp only [zopt]
    rw [if_pos hz1, c1]
    simp only [Option.bind_some]
    rw [if_pos trivial]
  · unfold lndC
    rw [e13]
    exact fun S _ => sSat_none p4 S
