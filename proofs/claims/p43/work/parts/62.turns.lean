-- ===== turnsOf: soonest due first is best =====
def del (S : Nat → Bool) (p : Nat) : Nat → Bool := fun i => S i && decide (i ≠ p)
theorem del_comm (S : Nat → Bool) (p q : Nat) : del (del S p) q = del (del S q) p := by
  funext i
  unfold del
  cases S i <;> cases decide (i ≠ p) <;> cases decide (i ≠ q) <;> rfl
theorem del_no {S : Nat → Bool} {p : Nat} (h : S p = false) : del S p = S := by
  funext i
  unfold del
  by_cases hi : i = p
  · rw [hi, h]; rfl
  · simp [hi]
def tTry (S : Nat → Bool) (due : Nat → Nat) (Y : Nat) (g : (Nat → Bool) → Nat) (base : Nat) : Nat → Nat
  | 0 => base
  | i + 1 => if S i = true ∧ Y ≤ due i then max (tTry S due Y g base i) (1 + g (del S i)) else tTry S due Y g base i
def tT (n : Nat) (due : Nat → Nat) : Nat → Nat → (Nat → Bool) → Nat
  | 0, _, _ => 0
  | d + 1, Y, S => tTry S due Y (tT n due d (Y + 1)) (tT n due d (Y + 1) S) n
theorem tTry_base {S : Nat → Bool} {due : Nat → Nat} {Y : Nat} {g : (Nat → Bool) → Nat} {base : Nat} : ∀ n, base ≤ tTry S due Y g base n
  | 0 => Nat.le_refl _
  | n + 1 => by
    have := tTry_base (S := S) (due := due) (Y := Y) (g := g) (base := base) n
    unfold tTry
    split <;> omega
theorem tTry_one {S : Nat → Bool} {due : Nat → Nat} {Y : Nat} {g : (Nat → Bool) → Nat} {base : Nat} {i : Nat} (hS : S i = true) (hd : Y ≤ due i) : ∀ n, i < n → 1 + g (del S i) ≤ tTry S due Y g base n
  | 0, h => by omega
  | n + 1, h => by
    unfold tTry
    by_cases hin : i = n
    · subst hin
      rw [if_pos ⟨hS, hd⟩]
      omega
    · have := tTry_one (g := g) (base := base) hS hd n (by omega)
      split <;> omega
theorem tTry_le {S : Nat → Bool} {due : Nat → Nat} {Y X : Nat} {g : (Nat → Bool) → Nat} {base : Nat} (hb : base ≤ X) : ∀ n, (∀ i, i < n → S i = true → Y ≤ due i → 1 + g (del S i) ≤ X) → tTry S due Y g base n ≤ X
  | 0, _ => hb
  | n + 1, h => by
    have := tTry_le (S := S) (due := due) (Y := Y) (g := g) hb n (fun i hi => h i (by omega))
    unfold tTry
    split
    · next hc =>
      have := h n (by omega) hc.1 hc.2
      omega
    · exact this
theorem tT_skip {n : Nat} {due : Nat → Nat} {d Y : Nat} {S : Nat → Bool} : tT n due d (Y + 1) S ≤ tT n due (d + 1) Y S := tTry_base n
theorem tT_take {n : Nat} {due : Nat → Nat} {d Y i : Nat} {S : Nat → Bool} (hi : i < n) (hS : S i = true) (hd : Y ≤ due i) : 1 + tT n due d (Y + 1) (del S i) ≤ tT n due (d + 1) Y S := tTry_one hS hd n hi
theorem tT_le {n : Nat} {due : Nat → Nat} {d Y X : Nat} {S : Nat → Bool} (h1 : tT n due d (Y + 1) S ≤ X) (h2 : ∀ i, i < n → S i = true → Y ≤ due i → 1 + tT n due d (Y + 1) (del S i) ≤ X) : tT n due (d + 1) Y S ≤ X := tTry_le h1 n h2
theorem tT_del {n : Nat} {due : Nat → Nat} {p : Nat} : ∀ d Y S, tT n due d Y S ≤ 1 + tT n due d Y (del S p)
  | 0, _, _ => by unfold tT; omega
  | d + 1, Y, S => by
    refine tT_le ?_ fun i hi hS hd => ?_
    · have h1 := tT_del (n := n) (due := due) (p := p) d (Y + 1) S
      have h2 := tT_skip (n := n) (due := due) (d := d) (Y := Y) (S := del S p)
      omega
    · by_cases hip : i = p
      · subst hip
        have h2 := tT_skip (n := n) (due := due) (d := d) (Y := Y) (S := del S i)
        omega
      · have h1 := tT_del (n := n) (due := due) (p := p) d (Y + 1) (del S i)
        rw [del_comm] at h1
        have h2 := tT_take (n := n) (due := due) (d := d) (Y := Y) (i := i) (S := del S p) hi (by unfold del; simp [hS, hip]) hd
        omega
def adds (S : Nat → Bool) (p : Nat) : Nat → Bool := fun i => S i || decide (i = p)
theorem del_adds {S : Nat → Bool} {p : Nat} (h : S p = false) : del (adds S p) p = S := by
  funext i
  unfold del adds
  by_cases hi : i = p
  · rw [hi, h]; simp
  · simp [hi]
theorem del_adds_ne {S : Nat → Bool} {p r : Nat} (h : r ≠ p) : del (adds S p) r = adds (del S r) p := by
  funext i
  unfold del adds
  by_cases hi : i = p
  · subst hi
    have : ¬ i = r := fun hc => h hc.symm
    simp [this]
  · simp [hi]
theorem adds_del {S : Nat → Bool} {p : Nat} (h : S p = true) : adds (del S p) p = S := by
  funext i
  unfold del adds
  by_cases hi : i = p
  · rw [hi, h]; simp
  · simp [hi]
/-- one due later is worth no less than one due sooner -/
theorem tT_swap {n : Nat} {due : Nat → Nat} {p q : Nat} (hq : q < n) (hpq : due p ≤ due q) : ∀ d Y R, R p = false → R q = false → tT n due d Y (adds R p) ≤ tT n due d Y (adds R q)
  | 0, _, _, _, _ => by unfold tT; omega
  | d + 1, Y, R, h1, h2 => by
    refine tT_le ?_ fun i hi hS hd => ?_
    · exact Nat.le_trans (tT_swap hq hpq d (Y + 1) R h1 h2) tT_skip
    · by_cases hip : i = p
      · subst hip
        rw [del_adds h1]
        have h3 := tT_take (n := n) (due := due) (d := d) (Y := Y) (i := q) (S := adds R q) hq (by unfold adds; simp) (by omega)
        rw [del_adds h2] at h3
        exact h3
      · have hR : R i = true := by
          unfold adds at hS
          simpa [hip] using hS
        have hiq : i ≠ q := fun hc => by rw [hc, h2] at hR; exact absurd hR (by decide)
        rw [del_adds_ne hip]
        have h3 := tT_swap hq hpq d (Y + 1) (del R i) (by unfold del; rw [h1]; rfl) (by unfold del; rw [h2]; rfl)
        have h4 := tT_take (n := n) (due := due) (d := d) (Y := Y) (i := i) (S := adds R q) hi (by unfold adds; simp [hR]) hd
        rw [del_adds_ne hiq] at h4
        omega
theorem tT_none {n : Nat} {due : Nat → Nat} {d Y : Nat} {S : Nat → Bool} (h : ∀ i, i < n → S i = true → ¬ Y ≤ due i) : tT n due (d + 1) Y S = tT n due d (Y + 1) S :=
  Nat.le_antisymm (tT_le (Nat.le_refl _) (fun i hi hS hd => absurd hd (h i hi hS))) tT_skip
theorem tT_first {n : Nat} {due : Nat → Nat} {d Y p : Nat} {S : Nat → Bool} (hp : p < n) (hS : S p = true) (hd : Y ≤ due p) (hmin : ∀ i, i < n → S i = true → Y ≤ due i → due p ≤ due i) : tT n due (d + 1) Y S = 1 + tT n due d (Y + 1) (del S p) := by
  refine Nat.le_antisymm (tT_le (tT_del d (Y + 1) S) fun i hi hSi hdi => ?_) (tT_take hp hS hd)
  by_cases hip : i = p
  · rw [hip]; exact Nat.le_refl _
  · have e1 : del S i = adds (del (del S i) p) p := (adds_del (by unfold del; simp [hS]; exact fun h => hip h.symm)).symm
    have e2 : del S p = adds (del (del S i) p) i := by
      rw [del_comm]
      exact (adds_del (by unfold del; simp [hSi, hip])).symm
    have := tT_swap (n := n) (due := due) (p := p) (q := i) hi (hmin i hi hSi hdi) d (Y + 1) (del (del S i) p) (by unfold del; simp) (by unfold del; simp)
    rw [← e1, ← e2] at this
    omega
