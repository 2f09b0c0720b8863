-- ===== one told number put into a LAND =====
def putC (t b what a : Nat) : Nat := if what < 3 then t else b + a
def putF (what : Nat) : Nat := if what = 0 then 2 else if what = 1 then 3 else if what = 2 then 4 else if what = 3 then 1 else if what = 4 then 2 else 0
theorem landIs_put {M : ZI} {R : ZF} {L : ZY} {t b n k what a : Nat} {v : Int32} {w w' : Nat → Int32} (h : landIs M R L t b w n k) (hn : n ≤ 10) (hk : k ≤ 9) (hz : zgood R L = true) (hr : ruleOk w) (hwh : what ≤ 5) (ha : 2 < what → a < n) (ha2 : a ≤ 10) (hw : ∀ j, w' j = if j = plc what a then v else w j) : landIs (zs M (putC t b what a) (putF what) v) R L t b w' n k := by
  obtain ⟨hO, hF, ⟨hb, hP⟩, hW, -, hC, -⟩ := id h
  have hP7 : ∀ p, p < n → L[b + p]? = some (0, 7) := fun p hp => (hP p hp).2.1
  have hpl : plc what a < 100 ∧ plc what a ≠ 0 ∧ ¬ (2 ≤ plc what a ∧ plc what a < 17) ∧ ¬ (27 ≤ plc what a ∧ plc what a < 49) ∧ plc what a ≠ 54 ∧ plc what a ≠ 58 ∧ ¬ (80 < plc what a) := by
    unfold plc
    repeat' split
    all_goals omega
  obtain ⟨u1, u2, u3, u4, u5, u6, u7⟩ := hpl
  have hne : ∀ p, p < n → b + p ≠ t := fun p hp he => by
    have := hP7 p hp
    rw [he, hO.1] at this
    cases this
  have hg : gF (own2 t b n) M R L (zs M (putC t b what a) (putF what) v) R L := ⟨⟨[], by simp⟩, fun c q1 _ hh => ⟨by
    rw [zs_ap, if_neg]
    unfold putC
    intro he
    by_cases h3 : what < 3
    · rw [if_pos h3] at he; exact hh (Or.inl he)
    · rw [if_neg h3] at he
      have := ha (by omega)
      exact hh (Or.inr ⟨by omega, by omega⟩), rfl⟩, fun _ _ => rfl⟩
  have hk2 : ∀ j, j ≠ plc what a → w' j = w j := fun j hj => by rw [hw, if_neg hj]
  have hwk : w' (plc what a) = v := by rw [hw, if_pos rfl]
  have hfar : ∀ j, 80 < j → w' j = w j := fun j hj => hk2 j (by omega)
  refine landIs_upd h hn hg (fun _ _ => rfl) ?_ (fun p hp => ?_) (lndW_keep hW hO hP7 hg rfl (fun i f hi hf => hfar _ (by omega))) (lndC_keep hC hO hP7 hg hz rfl (fun S _ => sSat_on hr (hk2 54 (by omega)) (fun i hi => hfar _ (by omega)) S)) (hk2 5 (by omega)) (fun i f hi hf => hfar _ (by omega)) (hk2 58 (by omega)) (fun x hx => hfar x (by omega))
  · obtain ⟨f0, f1, f2, f3, f4, f5, f6, f7, f8, f9⟩ := hF
    unfold lndF putC putF
    unfold plc at hk2 hwk u2 u3 u4 u5 u6 u7
    rcases (show what = 0 ∨ what = 1 ∨ what = 2 ∨ 3 ≤ what by omega) with rfl | rfl | rfl | h3
    · simp only [show (0 : Nat) < 3 by decide, if_true] at *
      simp only [zs_sm]
      rw [hk2 4 (by decide), hk2 0 (by decide), hwk, hk2 49 (by decide), hk2 50 (by decide), hk2 2 (by decide), hk2 3 (by decide), hk2 48 (by decide), hk2 5 (by decide), hk2 6 (by decide)]
      exact ⟨f0, f1, rfl, f3, f4, f5, f6, f7, f8, f9⟩
    · simp only [show (1 : Nat) < 3 by decide, show ¬ (1 : Nat) = 0 by decide, if_true, if_false] at *
      simp only [zs_sm]
      rw [hk2 4 (by decide), hk2 0 (by decide), hk2 1 (by decide), hwk, hk2 50 (by decide), hk2 2 (by decide), hk2 3 (by decide), hk2 48 (by decide), hk2 5 (by decide), hk2 6 (by decide)]
      exact ⟨f0, f1, f2, rfl, f4, f5, f6, f7, f8, f9⟩
    · simp only [show (2 : Nat) < 3 by decide, show ¬ (2 : Nat) = 0 by decide, show ¬ (2 : Nat) = 1 by decide, if_true, if_false] at *
      simp only [zs_sm]
      rw [hk2 4 (by decide), hk2 0 (by decide), hk2 1 (by decide), hk2 49 (by decide), hwk, hk2 2 (by decide), hk2 3 (by decide), hk2 48 (by decide), hk2 5 (by decide), hk2 6 (by decide)]
      exact ⟨f0, f1, f2, f3, rfl, f5, f6, f7, f8, f9⟩
    · have hpl2 : (if what = 0 then 1 else if what = 1 then 49 else if what = 2 then 50 else if what = 3 then 60 + a else if what = 4 then 70 + a else 17 + a) = (if what = 3 then 60 + a else if what = 4 then 70 + a else 17 + a) := by
        rw [if_neg (by omega), if_neg (by omega), if_neg (by omega)]
      rw [hpl2] at hk2
      have hbig : ∀ j, j < 17 ∨ (48 ≤ j ∧ j < 51) → w' j = w j := fun j hj => hk2 j (by
        have := ha (by omega)
        repeat' split
        all_goals omega)
      rw [if_neg (show ¬ what < 3 by omega), zs_df (fun he => hne a (ha (by omega)) he.symm), hbig 4 (by omega), hbig 0 (by omega), hbig 1 (by omega), hbig 49 (by omega), hbig 50 (by omega), hbig 2 (by omega), hbig 3 (by omega), hbig 48 (by omega), hbig 5 (by omega), hbig 6 (by omega)]
      exact ⟨f0, f1, f2, f3, f4, f5, f6, f7, f8, f9⟩
  · obtain ⟨q0, q1, q2, q3, q4, q5, q6⟩ := (hP p hp).2.2
    unfold lndQ
    by_cases h3 : what < 3
    · have hpl3 : plc what a = 1 ∨ plc what a = 49 ∨ plc what a = 50 := by
        unfold plc
        repeat' split
        all_goals omega
      have e : ∀ j, zs M (putC t b what a) (putF what) v (b + p) j = M (b + p) j := fun j => by
        unfold putC
        rw [if_pos h3, zs_df (hne p hp)]
      rw [e, e, e, e, e, e, e, hk2 (17 + p) (by omega), hk2 (60 + p) (by omega), hk2 (70 + p) (by omega), hk2 (27 + p) (by omega), hk2 (37 + p) (by omega), hk2 (80 + p) (by omega), hk2 (7 + p) (by omega)]
      exact ⟨q0, q1, q2, q3, q4, q5, q6⟩
    · have han := ha (by omega)
      by_cases hpa : p = a
      · subst hpa
        unfold putC putF
        unfold plc at hk2 hwk
        rcases (show what = 3 ∨ what = 4 ∨ what = 5 by omega) with rfl | rfl | rfl
        · simp only [show ¬ (3 : Nat) < 3 by decide, show ¬ (3 : Nat) = 0 by decide, show ¬ (3 : Nat) = 1 by decide, show ¬ (3 : Nat) = 2 by decide, if_true, if_false] at hk2 hwk ⊢
          simp only [zs_sm]
          rw [hk2 (17 + p) (by omega), hwk, hk2 (70 + p) (by omega), hk2 (27 + p) (by omega), hk2 (37 + p) (by omega), hk2 (80 + p) (by omega), hk2 (7 + p) (by omega)]
          exact ⟨q0, rfl, q2, q3, q4, q5, q6⟩
        · simp only [show ¬ (4 : Nat) < 3 by decide, show ¬ (4 : Nat) = 0 by decide, show ¬ (4 : Nat) = 1 by decide, show ¬ (4 : Nat) = 2 by decide, show ¬ (4 : Nat) = 3 by decide, if_true, if_false] at hk2 hwk ⊢
          simp only [zs_sm]
          rw [hk2 (17 + p) (by omega), hk2 (60 + p) (by omega), hwk, hk2 (27 + p) (by omega), hk2 (37 + p) (by omega), hk2 (80 + p) (by omega), hk2 (7 + p) (by omega)]
          exact ⟨q0, q1, rfl, q3, q4, q5, q6⟩
        · simp only [show ¬ (5 : Nat) < 3 by decide, show ¬ (5 : Nat) = 0 by decide, show ¬ (5 : Nat) = 1 by decide, show ¬ (5 : Nat) = 2 by decide, show ¬ (5 : Nat) = 3 by decide, show ¬ (5 : Nat) = 4 by decide, if_false] at hk2 hwk ⊢
          simp only [zs_sm]
          rw [hwk, hk2 (60 + p) (by omega), hk2 (70 + p) (by omega), hk2 (27 + p) (by omega), hk2 (37 + p) (by omega), hk2 (80 + p) (by omega), hk2 (7 + p) (by omega)]
          exact ⟨rfl, q1, q2, q3, q4, q5, q6⟩
      · have e : ∀ j, zs M (putC t b what a) (putF what) v (b + p) j = M (b + p) j := fun j => by
          unfold putC
          rw [if_neg h3, zs_df (by omega)]
        have hpl4 : ∀ x, (x = 17 + p ∨ x = 60 + p ∨ x = 70 + p ∨ x = 27 + p ∨ x = 37 + p ∨ x = 80 + p ∨ x = 7 + p) → x ≠ plc what a := fun x hx => by
          unfold plc
          repeat' split
          all_goals omega
        rw [e, e, e, e, e, e, e, hk2 (17 + p) (hpl4 _ (by simp)), hk2 (60 + p) (hpl4 _ (by simp)), hk2 (70 + p) (hpl4 _ (by simp)), hk2 (27 + p) (hpl4 _ (by simp)), hk2 (37 + p) (hpl4 _ (by simp)), hk2 (80 + p) (hpl4 _ (by simp)), hk2 (7 + p) (hpl4 _ (by simp))]
        exact ⟨q0, q1, q2, q3, q4, q5, q6⟩
