-- ===== a LAND new, and its law told =====
theorem cell_ok {sc : ZS} {k : Nat} (h : sc.1 ≤ 1000) (hk : k < 1000) : ∃ v, g114_cell sc (znn k) = some v := by
  unfold g114_cell
  rw [show Int32.ofNat sc.1 = znn sc.1 from rfl]
  by_cases hh : k < sc.1
  · rw [if_pos ((zn_lt (by omega) (by omega)).mpr hh), if_pos ((zn_zin (by omega)).mpr hh)]
    exact ⟨_, rfl⟩
  · rw [if_neg (by rw [zn_lt (by omega) (by omega)]; exact hh)]
    exact ⟨_, rfl⟩
theorem lawTells_on {w : Nat → Int32} {d d' : Nat → Int32} (h : lawTells w d) (hd : ∀ j, j < 7 → d' j = d j) : lawTells w d' := by
  intro v h1 h2 h3 p u hp hu
  have := h v h1 h2 h3 p u hp hu
  rw [hd 0 (by decide), hd 1 (by decide), hd 2 (by decide), hd 3 (by decide), hd 4 (by decide), hd 5 (by decide), hd 6 (by decide)]
  exact this
def dD (x : Int32) (q : Nat) : Nat := if q = 0 then bw x 61 else if q = 1 then bw (zshr x 3) 4 else if q = 2 then bw (zshr x 5) 10 else if q = 3 then bw (zshr x 6) 4 else if q = 4 then bw (zshr x 4) 21 else if q = 5 then bw (zshr x 7) 7 else bw (zshr x 2) 61
theorem dD_lt (x : Int32) (q : Nat) : dD x q < 100 := by
  unfold dD
  have h0 := bw_lt x (show 0 < 61 by decide)
  have h1 := bw_lt (zshr x 3) (show 0 < 4 by decide)
  have h2 := bw_lt (zshr x 5) (show 0 < 10 by decide)
  have h3 := bw_lt (zshr x 6) (show 0 < 4 by decide)
  have h4 := bw_lt (zshr x 4) (show 0 < 21 by decide)
  have h5 := bw_lt (zshr x 7) (show 0 < 7 by decide)
  have h6 := bw_lt (zshr x 2) (show 0 < 61 by decide)
  repeat' split
  all_goals omega
theorem btw0 (x : Int32) {hi : Nat} (hh : hi < 1000000) : g115_between x 0 (znn hi) = some (znn (bw x (hi + 1))) := by
  rw [show g115_between x 0 (znn hi) = _ from btw (lo := 0) (hi := hi) x (Nat.zero_le _) hh, Nat.zero_add]
  rfl
/-- the memory of a new LAND's law -/
def newM (M : ZI) (r : Nat) (D : Nat → Nat) : ZI := zs (zs (zs (zs (zs (zs (zs (zw M r fun _ => 0) r 0 (znn (D 0))) r 1 (znn (D 1))) r 2 (znn (D 2))) r 3 (znn (D 3))) r 4 (znn (D 4))) r 5 (znn (D 5))) r 6 (znn (D 6))
theorem newM_ne {M : ZI} {r c : Nat} {D : Nat → Nat} (h : c ≠ r) : newM M r D c = M c := by
  unfold newM
  simp only [zs_ap, zwF_ap, if_neg h]
theorem newM_at {M : ZI} {r j : Nat} {D : Nat → Nat} (h : j < 7) : newM M r D r j = znn (D j) := by
  unfold newM
  rcases (show j = 0 ∨ j = 1 ∨ j = 2 ∨ j = 3 ∨ j = 4 ∨ j = 5 ∨ j = 6 by omega) with rfl | rfl | rfl | rfl | rfl | rfl | rfl <;> simp [zs_ap, upd_ap]
theorem land_zero {M : ZI} {R : ZF} {L : ZY} {t b : Nat} {w : Nat → Int32} (o1 : L[t]? = some (13, 15)) (o2 : L[t + 1]? = some (51, 10)) (oW : L[t + 2]? = some (51, 0)) (o3 : L[t + 3]? = some (51, 150)) (r10 : R t 10 = some (t + 1)) (r11 : R t 11 = some (t + 2)) (r12 : R t 12 = some (t + 3)) (r13 : R t 13 = none) (ht : 148 ≤ t) (hb : 148 ≤ b) (hw : ∀ j, j < 578 → j ≠ 58 → w j = if j = 49 then 2 else if j = 50 then 12 else 0) (hM : ∀ j, j < 10 → M t j = if j = 3 then 2 else if j = 4 then 12 else 0) (hL : lndL M R L t b 0 w) : landIs M R L t b w 0 0 := by
  have w0 : ∀ j, j < 49 → w j = 0 := fun j hj => by rw [hw j (by omega) (by omega), if_neg (by omega), if_neg (by omega)]
  refine ⟨⟨o1, o2, o3, r10, r12, ht⟩, ?_, ⟨hb, fun p hp => absurd hp (Nat.not_lt_zero _)⟩, ⟨t + 2, fun _ => 0, by omega, r11, oW, fun i hi => absurd hi (Nat.not_lt_zero _)⟩, fun i hi => ?_, ?_, hL⟩
  · unfold lndF
    rw [hM 0 (by decide), hM 1 (by decide), hM 2 (by decide), hM 3 (by decide), hM 4 (by decide), hM 5 (by decide), hM 6 (by decide), hM 7 (by decide), hM 8 (by decide), hM 9 (by decide), w0 4 (by decide), w0 0 (by decide), w0 1 (by decide), w0 2 (by decide), w0 3 (by decide), w0 48 (by decide), w0 5 (by decide), w0 6 (by decide), hw 49 (by decide) (by decide), hw 50 (by decide) (by decide)]
    exact ⟨rfl, rfl, rfl, rfl, rfl, rfl, rfl, rfl, rfl, rfl⟩
  · rw [w0 5 (by decide)] at hi
    exact absurd hi (Nat.not_lt_zero _)
  · unfold lndC
    rw [r13]
    exact fun S _ => sSat_none (by rw [hw 54 (by decide) (by decide)]; rfl) S
