-- ===== a text built from where the heap stood =====
def sbOn (M0 : ZI) (R0 : ZF) (L0 : ZY) (M : ZI) (R : ZF) (L : ZY) (s v : Nat) (tx : List Nat) (N S : Nat) : Prop := (∃ cap, sbIs M R L s v cap (tx.map znn)) ∧ L0.length ≤ s ∧ L0.length ≤ v ∧ hFr (fun _ => False) M0 R0 L0 M R L ∧ ∃ X, L = L0 ++ X ∧ X.length ≤ N ∧ (X.map Prod.snd).sum ≤ S
theorem sbo_len {M0 M : ZI} {R0 R : ZF} {L0 L : ZY} {s v N S : Nat} {tx : List Nat} (h : sbOn M0 R0 L0 M R L s v tx N S) : L.length ≤ L0.length + N ∧ L0.length ≤ L.length := by
  obtain ⟨-, -, -, -, X, hX, h1, -⟩ := h
  rw [hX, List.length_append]
  omega
theorem sbo_gob {M0 M : ZI} {R0 R : ZF} {L0 L : ZY} {s v N S : Nat} {tx : List Nat} (h : sbOn M0 R0 L0 M R L s v tx N S) (hL : L0.length + N ≤ 700000) : gob L s 11 = true := by
  obtain ⟨cap, hs⟩ := h.1
  have := (sbo_len h).1
  exact gob_of hs.1 (by have := lay_le hs.1; omega)
theorem room_add {L0 L L' : ZY} {N S N2 S2 : Nat} (h : ∃ X, L = L0 ++ X ∧ X.length ≤ N ∧ (X.map Prod.snd).sum ≤ S) (h2 : ∃ X, L' = L ++ X ∧ X.length ≤ N2 ∧ (X.map Prod.snd).sum ≤ S2) : ∃ X, L' = L0 ++ X ∧ X.length ≤ N + N2 ∧ (X.map Prod.snd).sum ≤ S + S2 := by
  obtain ⟨X, rfl, h3, h4⟩ := h
  obtain ⟨Y, rfl, h5, h6⟩ := h2
  exact ⟨X ++ Y, by rw [List.append_assoc], by rw [List.length_append]; omega, by rw [List.map_append, List.sum_append]; omega⟩
theorem sbo_new {M : ZI} {R : ZF} {L : ZY} (hL : L.length ≤ 700000) (hL2 : 148 ≤ L.length) : ∃ M' R', g117_init L.length (zw M L.length fun _ => 0) (zw R L.length fun _ => none) (L ++ [(14, 4)]) = some (M', R', L ++ [(14, 4)] ++ [(50, 16)]) ∧ sbOn M R L M' R' (L ++ [(14, 4)] ++ [(50, 16)]) L.length (L.length + 1) [] 2 20 := by
  obtain ⟨M', R', e1, e2, e3⟩ := sb_new (M := zw M L.length fun _ => 0) (R := zw R L.length fun _ => none) (L := L ++ [(14, 4)]) (s := L.length) lay_new hL2 (by simp only [zwF_ap, if_true]) (by simp; omega) (by simp; omega)
  refine ⟨M', R', e1, ⟨⟨16, by simpa using e2⟩, Nat.le_refl _, Nat.le_succ _, ⟨⟨_, List.append_assoc _ _ _⟩, fun c hc _ => ?_⟩, ⟨_, List.append_assoc _ _ _, by simp, by simp⟩⟩⟩
  have hcL : c ≠ L.length := by omega
  obtain ⟨q1, q2⟩ := e3.2 c (by simp; omega) hcL
  rw [q1, q2]
  simp only [zwF_ap, if_neg hcL, and_self]
theorem hFr_base {own : Nat → Prop} {M0 M M1 : ZI} {R0 R R1 : ZF} {L0 L L1 : ZY} (h : hFr (fun _ => False) M0 R0 L0 M R L) (h1 : hFr own M R L M1 R1 L1) (ho : ∀ c, own c → L0.length ≤ c) : hFr (fun _ => False) M0 R0 L0 M1 R1 L1 := by
  obtain ⟨⟨X, rfl⟩, g1⟩ := h
  obtain ⟨⟨Y, rfl⟩, g2⟩ := h1
  refine ⟨⟨X ++ Y, by simp⟩, fun c hc _ => ?_⟩
  obtain ⟨a1, a2⟩ := g1 c hc (fun hh => hh)
  obtain ⟨b1, b2⟩ := g2 c (by simp; omega) (fun hh => by have := ho c hh; omega)
  exact ⟨b1.trans a1, b2.trans a2⟩
theorem sbo_str {M0 M : ZI} {R0 R : ZF} {L0 L : ZY} {s v N S a av : Nat} {tx ys : List Nat} (C : Nat) (h : sbOn M0 R0 L0 M R L s v tx N S) (hx : strIs M R L a av (ys.map znn)) (hne : av ≠ v) (hC : tx.length + ys.length ≤ C) (hC2 : C ≤ 1000) (hL : L0.length + N ≤ 700000) : ∃ M' R' L' v', g128_append s a M R L = some (s, M', R', L') ∧ sbOn M0 R0 L0 M' R' L' s v' (tx ++ ys) (N + 1) (S + 2 * C) ∧ hFr (fun c => c = s ∨ c = v) M R L M' R' L' := by
  have hl := sbo_len h
  obtain ⟨⟨cap, h1⟩, h2, h3, h4, h5⟩ := h
  obtain ⟨M', R', L', v', cap', e1, e2, e3, e4, ⟨X, e5, e6, e7⟩⟩ := sb_append h1 hx hne (by simp; omega) (by omega)
  refine ⟨M', R', L', v', e1, ⟨⟨cap', by rw [List.map_append]; exact e2⟩, h2, by rcases e4 with e | e <;> omega, hFr_base h4 e3 (fun c hc => by rcases hc with rfl | rfl <;> assumption), room_add h5 ⟨X, e5, e6, by simp at e7; omega⟩⟩, e3⟩
theorem sbo_int {M0 M : ZI} {R0 R : ZF} {L0 L : ZY} {s v N S n : Nat} {tx : List Nat} (C : Nat) (h : sbOn M0 R0 L0 M R L s v tx N S) (hn : n < 100) (hC : tx.length + 2 ≤ C) (hC2 : C ≤ 990) (hL : L0.length + N ≤ 700000) : ∃ M' R' L' v', g119_append s (znn n) M R L = some (s, M', R', L') ∧ sbOn M0 R0 L0 M' R' L' s v' (tx ++ digN n) (N + 1) (S + 2 * C) ∧ hFr (fun c => c = s ∨ c = v) M R L M' R' L' := by
  have hl := sbo_len h
  obtain ⟨⟨cap, h1⟩, h2, h3, h4, h5⟩ := h
  obtain ⟨M', R', L', v', cap', e1, e2, e3, e4, ⟨X, e5, e6, e7⟩⟩ := sb_appendI h1 hn (by simp; omega) (by omega)
  have hd : dig n = (digN n).map znn := by unfold dig digN; split <;> rfl
  have hd2 : (dig n).length ≤ 2 := by rw [dig_len]; split <;> omega
  refine ⟨M', R', L', v', e1, ⟨⟨cap', by rw [List.map_append, ← hd]; exact e2⟩, h2, by rcases e4 with e | e <;> omega, hFr_base h4 e3 (fun c hc => by rcases hc with rfl | rfl <;> assumption), room_add h5 ⟨X, e5, e6, by simp at e7; omega⟩⟩, e3⟩
def ascN (tx : List Nat) : Prop := ∀ x ∈ tx, x < 128
theorem asc_app {a b : List Nat} (h1 : ascN a) (h2 : ascN b) : ascN (a ++ b) := fun x hx => by
  rcases List.mem_append.mp hx with h | h
  · exact h1 x h
  · exact h2 x h
theorem asc_dig {n : Nat} (hn : n < 100) : ascN (digN n) := fun x hx => by
  unfold digN at hx
  split at hx
  · simp at hx; omega
  · simp at hx; omega
theorem asc_lit {l : List Nat} (h : (l.all fun x => Nat.blt x 128) = true) : ascN l := fun x hx => Nat.blt_eq.mp (List.all_eq_true.mp h x hx)
theorem dig_le (n : Nat) : (digN n).length ≤ 2 ∧ 1 ≤ (digN n).length := by
  unfold digN
  split <;> simp
theorem sbo_fin {M0 M : ZI} {R0 R : ZF} {L0 L : ZY} {s v N S : Nat} {tx : List Nat} (h : sbOn M0 R0 L0 M R L s v tx N S) (ha : ascN tx) (hC : tx.length ≤ 1000) (hL : L0.length + N ≤ 700000) : ∃ M' R' L', g133_toString s M R L = some (L.length, M', R', L') ∧ strIs M' R' L' L.length (L.length + 1) (tx.map znn) ∧ L0.length ≤ L.length ∧ hFr (fun _ => False) M0 R0 L0 M' R' L' ∧ hFr (fun _ => False) M R L M' R' L' ∧ ∃ X, L' = L0 ++ X ∧ X.length ≤ N + 2 ∧ (X.map Prod.snd).sum ≤ S + 4 + tx.length := by
  have hl := sbo_len h
  obtain ⟨⟨cap, h1⟩, h2, h3, h4, h5⟩ := h
  obtain ⟨M', R', e1, e2, e3⟩ := sb_toString h1 (fun x hx => by
    obtain ⟨k, hk, rfl⟩ := List.mem_map.mp hx
    exact ⟨k, ha k hk, rfl⟩) (by simp; omega) (by omega)
  refine ⟨M', R', _, e1, e2, hl.2, hFr_base h4 e3 (fun c hc => hc.elim), e3, ?_⟩
  obtain ⟨X, a1, a2, a3⟩ := room_add h5 (L' := L ++ [(15, 4), (50, (tx.map znn).length)]) (N2 := 2) (S2 := 4 + tx.length) ⟨_, rfl, by simp, by simp⟩
  exact ⟨X, a1, a2, by omega⟩
/-- a builder that lies by while other things are made -/
theorem sbo_fr {M0 M M' : ZI} {R0 R R' : ZF} {L0 L L' : ZY} {s v N S N2 S2 : Nat} {tx : List Nat} (h : sbOn M0 R0 L0 M R L s v tx N S) (hf : hFr (fun _ => False) M R L M' R' L') (hX : ∃ X, L' = L ++ X ∧ X.length ≤ N2 ∧ (X.map Prod.snd).sum ≤ S2) : sbOn M0 R0 L0 M' R' L' s v tx (N + N2) (S + S2) := by
  obtain ⟨⟨cap, h1⟩, h2, h3, h4, h5⟩ := h
  exact ⟨⟨cap, sbIs_fr h1 hf (fun hh => hh) (fun hh => hh)⟩, h2, h3, hFr_base h4 hf (fun c hc => hc.elim), room_add h5 hX⟩
theorem str_c {M : ZI} {R : ZF} {L : ZY} (i : Nat) (ys : List Nat) (hi : i < 23) (h : zSR.getD i [] = ys.map znn) : strIs M R L (2000000 + i) (3000000 + i) (ys.map znn) := by
  rw [← h]
  exact str_const hi
theorem sbo_v {M0 M : ZI} {R0 R : ZF} {L0 L : ZY} {s v N S : Nat} {tx : List Nat} (h : sbOn M0 R0 L0 M R L s v tx N S) (hL : L0.length + N ≤ 700000) : v < 700000 ∧ v < L.length ∧ s < L.length := by
  have := (sbo_len h).1
  obtain ⟨cap, hs⟩ := h.1
  have h1 := lay_le hs.2.2.2.1
  have h2 := lay_le hs.1
  omega
