-- ===== the law's row of LANDS that it keeps =====
def SH (R : ZF) (L : ZY) (r : Nat) (T : Nat → Nat) (m : Nat) : Prop := L[r]? = some (52, 6) ∧ 148 ≤ r ∧ ∀ j, j < m → R r j = some (T j)
theorem SH_gF {own : Nat → Prop} {M M' : ZI} {R R' : ZF} {L L' : ZY} {r m : Nat} {T : Nat → Nat} (h : SH R L r T m) (hg : gF own M R L M' R' L') (hr : ¬ own r) : SH R' L' r T m := by
  obtain ⟨h1, h2, h3⟩ := h
  refine ⟨gF_lay hg h1, h2, fun j hj => ?_⟩
  rw [(hg.2.1 r h2 (lay_le h1) hr).2]
  exact h3 j hj
theorem gar52 {L : ZY} {r j : Nat} (h : L[r]? = some (52, 6)) (hL : L.length ≤ 900000) (hj : j < 6) : gar L r 52 (znn j) = true := gar_of h (lay_lt h hL) hj (by decide)
theorem zr_at {R : ZF} {o k j : Nat} {v : Option Nat} : zr R o k v o j = if j = k then v else R o j := by
  simp only [zr_ap, zwF_ap, if_true]
theorem zr_off {R : ZF} {o k c : Nat} {v : Option Nat} (h : c ≠ o) : zr R o k v c = R c := by
  simp only [zr_ap, if_neg h]
theorem shift_a {r : Nat} {L : ZY} {T : Nat → Nat} (hr : L[r]? = some (52, 6)) (hL : L.length ≤ 900000) (hT : ∀ j, j < 6 → L[T j]? = some (13, 15)) : ∀ k i fuel (R : ZF), i + k = 6 → k < fuel → 1 ≤ i → (∀ j, j < i - 1 → R r j = some (T (j + 1))) → (∀ j, i ≤ j → j < 6 → R r j = some (T j)) → ∃ R', g152_l179 r L fuel (znn i) R = some R' ∧ g152_l810 r L fuel (znn i) R = some R' ∧ (∀ c, c ≠ r → R' c = R c) ∧ ∀ j, j < 5 → R' r j = some (T (j + 1)) := by
  intro k
  induction k with
  | zero =>
    intro i fuel R hi hf h1 ha hb
    obtain ⟨fu, rfl⟩ : ∃ k, fuel = k + 1 := ⟨fuel - 1, by omega⟩
    have : i = 6 := by omega
    subst this
    refine ⟨R, ?_, ?_, fun _ _ => rfl, fun j hj => ha j (by omega)⟩
    · rw [g152_l179, if_neg (by decide)]
    · rw [g152_l810, if_neg (by decide)]
  | succ k ih =>
    intro i fuel R hi hf h1 ha hb
    obtain ⟨fu, rfl⟩ : ∃ k, fuel = k + 1 := ⟨fuel - 1, by omega⟩
    have hi1 : znn i - 1 = znn (i - 1) := by rw [zl1, zn_sub h1]
    obtain ⟨R', e1, e2, e3, e4⟩ := ih (i + 1) fu (zr R r (i - 1) (some (T i))) (by omega) (by omega) (by omega) (fun j hj => by
      rw [zr_at]
      by_cases hji : j = i - 1
      · rw [if_pos hji, hji, show i - 1 + 1 = i by omega]
      · rw [if_neg hji]; exact ha j (by omega)) (fun j q1 q2 => by rw [zr_at, if_neg (by omega)]; exact hb j (by omega) q2)
    have hlt : znn i < 6 := by rw [show (6 : Int32) = znn 6 from rfl, zn_lt (by omega) (by decide)]; omega
    refine ⟨R', ?_, ?_, fun c hc => by rw [e3 c hc, zr_off hc], e4⟩
    · rw [g152_l179, if_pos hlt, if_pos (gar52 hr hL (by omega)), zn_zi (by omega), hb i (Nat.le_refl _) (by omega)]
      simp only [Option.bind_some, zlet]
      rw [hi1, if_pos (gar52 hr hL (by omega)), if_pos (gek_of (hT i (by omega))), zn_zi (by omega), zadd1]
      exact e1
    · rw [g152_l810, if_pos hlt, if_pos (gar52 hr hL (by omega)), zn_zi (by omega), hb i (Nat.le_refl _) (by omega)]
      simp only [Option.bind_some, zlet]
      rw [hi1, if_pos (gar52 hr hL (by omega)), if_pos (gek_of (hT i (by omega))), zn_zi (by omega), zadd1]
      exact e2
/-- as the shelf stands once there is room on it -/
def shU (m : Nat) (T : Nat → Nat) : Nat → Nat := fun j => if m = 6 then T (j + 1) else T j
/-- the family after one was kept -/
def pushT (m m' : Nat) (T : Nat → Nat) (X : Nat) : Nat → Nat := fun j => if j = m' then T m else if j = m' - 1 then X else if m = 6 then T (j + 1) else T j
theorem SH_room {R : ZF} {L : ZY} {r m : Nat} {T : Nat → Nat} (h : SH R L r T m) (hm : m = 6) (hL : L.length ≤ 900000) (hT : ∀ j, j < 6 → L[T j]? = some (13, 15)) : ∃ R', g152_l179 r L zfu 1 R = some R' ∧ g152_l810 r L zfu 1 R = some R' ∧ (∀ c, c ≠ r → R' c = R c) ∧ SH R' L r (fun j => T (j + 1)) 5 := by
  obtain ⟨h1, h2, h3⟩ := h
  subst hm
  obtain ⟨R', e1, e2, e3, e4⟩ := shift_a h1 hL hT 5 1 zfu R rfl (by rw [zfu_eq]; omega) (Nat.le_refl _) (fun j hj => absurd hj (by omega)) (fun j q1 q2 => h3 j q2)
  exact ⟨R', e1, e2, e3, h1, h2, e4⟩
theorem SH_put {R : ZF} {L : ZY} {r m' : Nat} {T' : Nat → Nat} {X : Nat} (h : SH R L r T' (m' - 1)) (h1 : 1 ≤ m') (hX : T' (m' - 1) = X) : SH (zr R r (m' - 1) (some X)) L r T' m' := by
  obtain ⟨a1, a2, a3⟩ := h
  refine ⟨a1, a2, fun j hj => ?_⟩
  rw [zr_at]
  by_cases hjm : j = m' - 1
  · rw [if_pos hjm, hjm, hX]
  · rw [if_neg hjm]; exact a3 j (by omega)
theorem gF_shelf {M : ZI} {R R' : ZF} {L : ZY} {r : Nat} (h148 : 148 ≤ r) (h : ∀ c, c ≠ r → R' c = R c) : gF (fun c => c = r) M R L M R' L := ⟨⟨[], by simp⟩, fun c _ _ hc => ⟨rfl, h c hc⟩, fun c hc => h c (by omega)⟩
