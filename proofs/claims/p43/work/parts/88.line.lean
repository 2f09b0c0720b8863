-- ===== text of THE LAW: its lines =====
def lineR (A B : ZI) (c i : Nat) : Prop := wordRel (A 129 i) (B 153 (4 * i + 3)) ∧ A 130 i = B 153 (4 * i) ∧ A 131 i = B 153 (4 * i + 1) ∧ A 132 i = B 153 (4 * i + 2) ∧ ∃ p q r, p ≤ q ∧ q ≤ r ∧ r ≤ c ∧ B 153 (4 * i) = znn p ∧ B 153 (4 * i + 1) = znn q ∧ B 153 (4 * i + 2) = znn r ∧ pushes B p q 3 anyV ∧ (q = r ∨ pushes B q r 22 bitV)
theorem lineR_of {A B A' B' : ZI} {c c' i : Nat} (h : lineR A B c i) (g1 : A' 129 i = A 129 i ∧ A' 130 i = A 130 i ∧ A' 131 i = A 131 i ∧ A' 132 i = A 132 i) (g2 : ∀ k, k < 4 → B' 153 (4 * i + k) = B 153 (4 * i + k)) (g3 : ∀ j, j < 2 * c → B' 154 j = B 154 j) (hc : c ≤ c') : lineR A' B' c' i := by
  obtain ⟨h1, h2, h3, h4, p, q, r, h5, h6, h7, h8, h9, h10, h11, h12⟩ := h
  have e0 : B' 153 (4 * i) = B 153 (4 * i) := g2 0 (by decide)
  unfold lineR
  rw [g1.1, g1.2.1, g1.2.2.1, g1.2.2.2, e0, g2 1 (by decide), g2 2 (by decide), g2 3 (by decide)]
  refine ⟨h1, h2, h3, h4, p, q, r, h5, h6, by omega, h8, h9, h10, pushes_keep h11 (fun j hj => g3 j (by omega)), ?_⟩
  rcases h12 with h12 | h12
  · exact Or.inl h12
  · exact Or.inr (pushes_keep h12 (fun j hj => g3 j (by omega)))
def lineK (n : Nat) (p : Int32 × ZI) : Option (Int32 × ZI) := match p with | (v5, M6) => (if v5 = 0 then zlet (zs M6 148 15 ((M6 148 15) + (0 : Int32))) fun (M7 : ZI) => f168_l12 n v5 M7 else zlet (zs M6 148 15 ((M6 148 15) + (1 : Int32))) fun (M8 : ZI) => f168_l12 n v5 M8)
theorem l12_eq (n : Nat) (x3 : Int32) (M4 : ZI) : f168_l12 (n + 1) x3 M4 = (if x3 = 0 then some (x3, M4) else (if (M4 148 21) = 0 then some (x3, M4) else (f169_aLine M4).bind (lineK n))) := rfl
theorem zs_id {M : ZI} {o j : Nat} {v : Int32} (h : v = M o j) : zs M o j v = M := by
  funext o' j'
  by_cases ho : o' = o
  · rw [ho, zs_sm]
    by_cases hj : j' = j
    · rw [if_pos hj, h, hj]
    · rw [if_neg hj]
  · rw [zs_df ho]
theorem lineK_0 (n : Nat) (B : ZI) : lineK (n + 1) (0, B) = some (0, B) := by
  unfold lineK
  dsimp only
  rw [if_pos rfl, zlet_e, zs_id (show B 148 15 + 0 = B 148 15 by simp), l12_eq, if_pos rfl]
theorem lineK_1 (n : Nat) (B : ZI) : lineK n (1, B) = f168_l12 n 1 (zs B 148 15 ((B 148 15) + (1 : Int32))) := by
  unfold lineK
  dsimp only
  rw [if_neg (by decide), zlet_e]
theorem add80 {A : ZI} {L c : Nat} {x8 x11 x14 : Int32} (h : A 124 5 = znn L) (hL : L < 16) (hc : A 125 3 = znn c) : f80_add 124 x8 x11 x14 A = some (zs (zs (zs (zs (zs A 129 L x8) 130 L x11) 131 L x14) 132 L (znn c)) 124 5 (znn (L + 1))) := by
  have hz : zin (znn L) 16 = true := (zn_zin (by omega)).mpr hL
  have k1 : (zs A 129 L x8) 124 5 = znn L := by rw [zs_df (by decide)]; exact h
  have k2 : (zs (zs A 129 L x8) 130 L x11) 124 5 = znn L := by rw [zs_df (by decide)]; exact k1
  have k3 : (zs (zs (zs A 129 L x8) 130 L x11) 131 L x14) 124 5 = znn L := by rw [zs_df (by decide)]; exact k2
  have k4 : (zs (zs (zs A 129 L x8) 130 L x11) 131 L x14) 125 3 = znn c := by rw [zs_df (by decide), zs_df (by decide), zs_df (by decide)]; exact hc
  have k5 : (zs (zs (zs (zs A 129 L x8) 130 L x11) 131 L x14) 132 L (znn c)) 124 5 = znn L := by rw [zs_df (by decide)]; exact k3
  unfold f80_add
  rw [h, if_pos (show znn L < 16 by rw [zl16, zn_lt (by omega) (by decide)]; exact hL), if_pos hz, zn_zi (by omega), show 124 + 5 = 129 from rfl, show 124 + 6 = 130 from rfl, show 124 + 7 = 131 from rfl, show 124 + 8 = 132 from rfl, show 124 + 1 = 125 from rfl, zlet_e, k1, if_pos hz, zn_zi (by omega), zlet_e, k2, if_pos hz, zn_zi (by omega), zlet_e, k3, k4, if_pos hz, zn_zi (by omega), zlet_e, k5, zadd1, zlet_e]
/-- the reference writes into its lines -/
def wrL (B B' : ZI) : Prop := (∀ o, o ≠ 148 → o ≠ 153 → B' o = B o) ∧ ∀ j, j ≠ 15 → j ≠ 27 → B' 148 j = B 148 j
theorem wrL_153 (B : ZI) (i : Nat) (v : Int32) : wrL B (zs B 153 i v) := ⟨fun o _ o2 => by rw [zs_df o2], fun j _ _ => by rw [zs_df (by decide)]⟩
theorem wrL_148 (B : ZI) {i : Nat} (hi : i = 15 ∨ i = 27) (v : Int32) : wrL B (zs B 148 i v) := ⟨fun o o1 _ => by rw [zs_df o1], fun j j1 j2 => by rw [zs_sm, if_neg (by omega)]⟩
theorem PS_wrL {a : Nat} {b : Nat → Nat} {t N m : Nat} {A0 B0 A B B' : ZI} (h : PS a b t N A0 B0 A B m) (g : wrL B B') : PS a b t N A0 B0 A B' m := PS_of h (fun _ _ => rfl) (fun o o1 o2 => g.1 o o1 (by omega)) (fun j hj => g.2 j (by rintro rfl; exact absurd hj (by decide)) (by rintro rfl; exact absurd hj (by decide)))
theorem LC_wrL {A B B' : ZI} {c : Nat} (h : LC A B c) (g : wrL B B') : LC A B' c := LC_of h (fun _ _ _ => rfl) (g.2 16 (by decide) (by decide)) (g.1 154 (by decide) (by decide))
theorem PS_clsL {a : Nat} {b : Nat → Nat} {t N m : Nat} {A0 B0 A A' B : ZI} (h : PS a b t N A0 B0 A B m) (g : ∀ o, ¬ (124 ≤ o ∧ o ≤ 146) → A' o = A o) : PS a b t N A0 B0 A' B m := PS_of h g (fun _ _ _ => rfl) (fun _ _ => rfl)
theorem line_pair : (pairs 0).all (fun q => (q.1 == 256 && q.2 == 20) || (q.1 == 257 && q.2 == 21) || (q.1 == 258 && q.2 == 22) || ((!(q.1 == 256)) && (!(q.1 == 257)) && (!(q.1 == 258)) && (decide (q.2 < 20) || decide (22 < q.2)))) = true := by decide +kernel
def LawQ (b : Nat → Nat) (t N : Nat) (A0 B0 A' B' : ZI) : Prop := ∃ m L c, PS 0 b t N A0 B0 A' B' m ∧ LC A' B' c ∧ c ≤ 400 ∧ L ≤ 16 ∧ A' 124 5 = znn L ∧ B' 148 15 = znn L ∧ ∀ i, i < L → lineR A' B' c i
-- the pieces of a line
def clsEnd (f : Nat) (x3 x8 x11 x14 : Int32) (M15 : ZI) : Option (Int32 × ZI) := (f78_skip 119 (59 : Int32) M15).bind fun (v16, M17) => (if v16 = 0 then some ((0 : Int32), M17) else (f80_add (119 + 5) x8 x11 x14 M17).bind fun M18 => f69_l21 119 f (x3 + (1 : Int32)) M18)
def clsLine (f : Nat) (x3 x8 : Int32) (M9 : ZI) : Option (Int32 × ZI) := (if (M9 (119 + 5) 5) < (16 : Int32) then (f68_forward 119 M9).bind fun M10 => zlet (M10 (119 + 6) 3) fun (x11 : Int32) => (f71_readSum 119 (119 + 6) M10).bind fun (v12, M13) => (if v12 = 0 then some ((0 : Int32), M13) else zlet (M13 (119 + 6) 3) fun (x14 : Int32) => zlet (clsEnd f x3 x8 x11 x14) fun j19 =>
  (if (M13 119 7) = (259 : Int32) then (f68_forward 119 M13).bind fun M20 => (f76_readAny zgf 119 (119 + 6) (0 : Int32) (0 : Int32) M20).bind fun (v21, M22) => (if v21 = 0 then some ((0 : Int32), M22) else j19 M22) else j19 M13)) else (f70_refuse 119 (3 : Int32) M9).bind fun (v23, M24) => if zbl v23 = true then some (v23, M24) else none)
def refEnd (M9 : ZI) : Option (Int32 × ZI) := (if zin (((4 : Int32) * (M9 148 15)) + (2 : Int32)) 64 = true then zlet (zs M9 153 (zi (((4 : Int32) * (M9 148 15)) + (2 : Int32))) (M9 148 16)) fun (M10 : ZI) => (f179_need (159 : Int32) M10).bind fun (v11, M12) => if zbl v11 = true then some (v11, M12) else none else none)
def refLine (T : Int32) (L : Nat) (M : ZI) : Option (Int32 × ZI) := (if znn L = (16 : Int32) then (f170_bad (3 : Int32) M).bind fun (v17, M18) => if zbl v17 = true then some (v17, M18) else none else zlet (zs M 148 27 (0 : Int32)) fun (M2 : ZI) => if zin (((4 : Int32) * (M2 148 15)) + (3 : Int32)) 64 = true then zlet (zs M2 153 (zi (((4 : Int32) * (M2 148 15)) + (3 : Int32))) (M2 148 21)) fun (M3 : ZI) => (f157_next0 M3).bind fun M4 => if zin ((4 : Int32) * (M4 148 15)) 64 = true then zlet (zs M4 153 (zi ((4 : Int32) * (M4 148 15))) (M4 148 16)) fun (M5 : ZI) => (f171_sumUp M5).bind fun (v6, M7) => (if v6 = 0 then some ((0 : Int32), M7) else if zin (((4 : Int32) * (M7 148 15)) + (1 : Int32)) 64 = true then zlet (zs M7 153 (zi (((4 : Int32) * (M7 148 15)) + (1 : Int32))) (M7 148 16)) fun (M8 : ZI) => zlet refEnd fun j13 =>
  (if (M8 148 21) = (3 : Int32) then (f157_next0 M8).bind fun M14 => (f175_any zgf M14).bind fun (v15, M16) => (if v15 = 0 then some ((0 : Int32), M16) else j13 M16) else j13 M8) else none) else none else none)
