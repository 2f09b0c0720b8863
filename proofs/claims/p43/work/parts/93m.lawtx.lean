-- ===== the text of the law with drawn numbers =====
def lawTx (D : Nat → Nat) : List Nat := [119, 101, 105, 103, 104, 116, 32, 110, 101, 101, 100, 47, 52, 43] ++ (digN (D 2) ++ ([32, 119, 104, 101, 110, 32, 97, 103, 101, 62] ++ (digN (D 0) ++ ([32, 97, 110, 100, 32, 110, 111, 116, 32, 40, 104, 97, 100, 62] ++ (digN (D 1) ++ ([32, 111, 114, 32, 119, 111, 114, 110, 62, 57, 41, 59, 119, 101, 105, 103, 104, 116, 32, 115, 105, 110, 99, 101, 45, 104, 97, 100, 42] ++ (digN (D 3) ++ ([59, 119, 101, 97, 114, 32, 117, 115, 101, 100, 47, 51, 43, 116, 105, 101, 115, 32, 119, 104, 101, 110, 32, 117, 115, 101, 100, 62] ++ (digN (D 4) ++ ([32, 111, 114, 32, 110, 101, 101, 100, 60, 51, 59, 119, 101, 97, 114, 32] ++ (digN (D 5) ++ ([59, 110, 111, 116, 105, 99, 101, 32, 117, 115, 101, 100, 42] ++ (digN (D 6) ++ ([43, 121, 101, 97, 114, 42, 53, 48, 45, 121, 101, 97, 114, 47, 51, 42, 49, 53, 48, 59]))))))))))))))
theorem st_num3 {a t i : Nat} {b : Nat → Nat} {rest : List Nat} {l : List (Int32 × Nat)} (h : restAt b t i ([49, 53, 48] ++ rest)) (hd : isDig (rest.headD 0) = false) (hr : ∀ e, restAt b t e rest → stream a b t l e) : stream a b t ((2, 150) :: l) i := by
  obtain ⟨g3, g4⟩ := rest_app h
  have h0 : b i = 49 := by have := g3 0 (by simp); simpa using this
  have h1 : b (i + 1) = 53 := by have := g3 1 (by simp); simpa using this
  have h2 : b (i + 2) = 48 := by have := g3 2 (by simp); simpa using this
  have hle : i + 3 ≤ t := by have := g4.2; simp at this; omega
  have hdig : ∀ j, i ≤ j → j < i + 3 → isDig (b j) = true := fun j q1 q2 => by
    have hj : j = i ∨ j = i + 1 ∨ j = i + 2 := by omega
    rcases hj with rfl | rfl | rfl
    · rw [h0]; rfl
    · rw [h1]; rfl
    · rw [h2]; rfl
  have hend : runEnd isDig b t (t - i) i = i + 3 := runEnd_to (by omega) hle (next_of g4 hd) hdig
  refine ⟨i, i + 3, ⟨by omega, hle, Nat.le_refl _, blanks_to (Nat.le_refl _) (by omega) (fun j q1 q2 => by omega) (Or.inr (by rw [h0]; rfl)), ?_, ?_, fun _ => ⟨by omega, by rw [h0]; rfl, ?_⟩⟩, hr _ g4⟩
  · unfold lexEnd
    rw [if_pos (by omega), h0, if_neg (by decide), if_pos (by decide), hend]
  · unfold lexTok
    rw [if_pos (by omega), h0, if_neg (by decide), if_pos (by decide), hend, Nat.add_sub_cancel_left, if_pos (by decide)]
  · rw [Nat.add_sub_cancel_left]
    simp only [valN, Nat.add_zero, h0, h1, h2]
theorem law_stream {a t i : Nat} {b : Nat → Nat} {D : Nat → Nat} (ha : a = 0) (hD : ∀ q, q < 7 → D q < 100) (h : restAt b t i (lawTx D)) : stream a b t (lawToks D) i := by
  subst ha
  unfold lawTx at h
  unfold lawToks
  refine st_word (sp := 0) (w := [119, 101, 105, 103, 104, 116]) h (by decide) (by decide) rfl (by decide) (by decide) (fun e h => ?_)
  refine st_word (sp := 1) (w := [110, 101, 101, 100]) h (by decide) (by decide) rfl (by decide) (by decide) (fun e h => ?_)
  refine st_sign (sp := 0) (x := 47) h (by decide) (by decide) (by decide) (fun e h => ?_)
  refine st_num (sp := 0) (n := 4) h (by decide) rfl (fun e h => ?_)
  refine st_sign (sp := 0) (x := 43) h (by decide) (by decide) (by decide) (fun e h => ?_)
  refine st_num (sp := 0) (n := D 2) h (hD 2 (by decide)) rfl (fun e h => ?_)
  refine st_word (sp := 1) (w := [119, 104, 101, 110]) h (by decide) (by decide) rfl (by decide) (by decide) (fun e h => ?_)
  refine st_word (sp := 1) (w := [97, 103, 101]) h (by decide) (by decide) rfl (by decide) (by decide) (fun e h => ?_)
  refine st_sign (sp := 0) (x := 62) h (by decide) (by decide) (by decide) (fun e h => ?_)
  refine st_num (sp := 0) (n := D 0) h (hD 0 (by decide)) rfl (fun e h => ?_)
  refine st_word (sp := 1) (w := [97, 110, 100]) h (by decide) (by decide) rfl (by decide) (by decide) (fun e h => ?_)
  refine st_word (sp := 1) (w := [110, 111, 116]) h (by decide) (by decide) rfl (by decide) (by decide) (fun e h => ?_)
  refine st_sign (sp := 1) (x := 40) h (by decide) (by decide) (by decide) (fun e h => ?_)
  refine st_word (sp := 0) (w := [104, 97, 100]) h (by decide) (by decide) rfl (by decide) (by decide) (fun e h => ?_)
  refine st_sign (sp := 0) (x := 62) h (by decide) (by decide) (by decide) (fun e h => ?_)
  refine st_num (sp := 0) (n := D 1) h (hD 1 (by decide)) rfl (fun e h => ?_)
  refine st_word (sp := 1) (w := [111, 114]) h (by decide) (by decide) rfl (by decide) (by decide) (fun e h => ?_)
  refine st_word (sp := 1) (w := [119, 111, 114, 110]) h (by decide) (by decide) rfl (by decide) (by decide) (fun e h => ?_)
  refine st_sign (sp := 0) (x := 62) h (by decide) (by decide) (by decide) (fun e h => ?_)
  refine st_num (sp := 0) (n := 9) h (by decide) rfl (fun e h => ?_)
  refine st_sign (sp := 0) (x := 41) h (by decide) (by decide) (by decide) (fun e h => ?_)
  refine st_sign (sp := 0) (x := 59) h (by decide) (by decide) (by decide) (fun e h => ?_)
  refine st_word (sp := 0) (w := [119, 101, 105, 103, 104, 116]) h (by decide) (by decide) rfl (by decide) (by decide) (fun e h => ?_)
  refine st_word (sp := 1) (w := [115, 105, 110, 99, 101]) h (by decide) (by decide) rfl (by decide) (by decide) (fun e h => ?_)
  refine st_sign (sp := 0) (x := 45) h (by decide) (by decide) (by decide) (fun e h => ?_)
  refine st_word (sp := 0) (w := [104, 97, 100]) h (by decide) (by decide) rfl (by decide) (by decide) (fun e h => ?_)
  refine st_sign (sp := 0) (x := 42) h (by decide) (by decide) (by decide) (fun e h => ?_)
  refine st_num (sp := 0) (n := D 3) h (hD 3 (by decide)) rfl (fun e h => ?_)
  refine st_sign (sp := 0) (x := 59) h (by decide) (by decide) (by decide) (fun e h => ?_)
  refine st_word (sp := 0) (w := [119, 101, 97, 114]) h (by decide) (by decide) rfl (by decide) (by decide) (fun e h => ?_)
  refine st_word (sp := 1) (w := [117, 115, 101, 100]) h (by decide) (by decide) rfl (by decide) (by decide) (fun e h => ?_)
  refine st_sign (sp := 0) (x := 47) h (by decide) (by decide) (by decide) (fun e h => ?_)
  refine st_num (sp := 0) (n := 3) h (by decide) rfl (fun e h => ?_)
  refine st_sign (sp := 0) (x := 43) h (by decide) (by decide) (by decide) (fun e h => ?_)
  refine st_word (sp := 0) (w := [116, 105, 101, 115]) h (by decide) (by decide) rfl (by decide) (by decide) (fun e h => ?_)
  refine st_word (sp := 1) (w := [119, 104, 101, 110]) h (by decide) (by decide) rfl (by decide) (by decide) (fun e h => ?_)
  refine st_word (sp := 1) (w := [117, 115, 101, 100]) h (by decide) (by decide) rfl (by decide) (by decide) (fun e h => ?_)
  refine st_sign (sp := 0) (x := 62) h (by decide) (by decide) (by decide) (fun e h => ?_)
  refine st_num (sp := 0) (n := D 4) h (hD 4 (by decide)) rfl (fun e h => ?_)
  refine st_word (sp := 1) (w := [111, 114]) h (by decide) (by decide) rfl (by decide) (by decide) (fun e h => ?_)
  refine st_word (sp := 1) (w := [110, 101, 101, 100]) h (by decide) (by decide) rfl (by decide) (by decide) (fun e h => ?_)
  refine st_sign (sp := 0) (x := 60) h (by decide) (by decide) (by decide) (fun e h => ?_)
  refine st_num (sp := 0) (n := 3) h (by decide) rfl (fun e h => ?_)
  refine st_sign (sp := 0) (x := 59) h (by decide) (by decide) (by decide) (fun e h => ?_)
  refine st_word (sp := 0) (w := [119, 101, 97, 114]) h (by decide) (by decide) rfl (by decide) (by decide) (fun e h => ?_)
  refine st_num (sp := 1) (n := D 5) h (hD 5 (by decide)) rfl (fun e h => ?_)
  refine st_sign (sp := 0) (x := 59) h (by decide) (by decide) (by decide) (fun e h => ?_)
  refine st_word (sp := 0) (w := [110, 111, 116, 105, 99, 101]) h (by decide) (by decide) rfl (by decide) (by decide) (fun e h => ?_)
  refine st_word (sp := 1) (w := [117, 115, 101, 100]) h (by decide) (by decide) rfl (by decide) (by decide) (fun e h => ?_)
  refine st_sign (sp := 0) (x := 42) h (by decide) (by decide) (by decide) (fun e h => ?_)
  refine st_num (sp := 0) (n := D 6) h (hD 6 (by decide)) rfl (fun e h => ?_)
  refine st_sign (sp := 0) (x := 43) h (by decide) (by decide) (by decide) (fun e h => ?_)
  refine st_word (sp := 0) (w := [121, 101, 97, 114]) h (by decide) (by decide) rfl (by decide) (by decide) (fun e h => ?_)
  refine st_sign (sp := 0) (x := 42) h (by decide) (by decide) (by decide) (fun e h => ?_)
  refine st_num (sp := 0) (n := 50) h (by decide) rfl (fun e h => ?_)
  refine st_sign (sp := 0) (x := 45) h (by decide) (by decide) (by decide) (fun e h => ?_)
  refine st_word (sp := 0) (w := [121, 101, 97, 114]) h (by decide) (by decide) rfl (by decide) (by decide) (fun e h => ?_)
  refine st_sign (sp := 0) (x := 47) h (by decide) (by decide) (by decide) (fun e h => ?_)
  refine st_num (sp := 0) (n := 3) h (by decide) rfl (fun e h => ?_)
  refine st_sign (sp := 0) (x := 42) h (by decide) (by decide) (by decide) (fun e h => ?_)
  refine st_num3 h rfl (fun e h => ?_)
  refine st_sign (sp := 0) (x := 59) h (by decide) (by decide) (by decide) (fun e h => ?_)
  exact st_end h
