-- ===== THE BOOK in a LAND and in the reference =====
def sNote (w : Nat → Int32) (x y z : Int32) : Nat → Int32 :=
  if zi (w 5) = 150 then w else upd (upd (upd (upd (upd w (578 + 4 * zi (w 5)) (w 0)) (579 + 4 * zi (w 5)) x) (580 + 4 * zi (w 5)) y) (581 + 4 * zi (w 5)) z) 5 (w 5 + 1)
theorem note_r {B : ZI} {x y z : Int32} {l : Nat} (ht : B 148 30 = 1) (hl : l ≤ 150) (h5 : B 149 5 = znn l) : f217_notes x y z B = some (zw B 149 (sNote (B 149) x y z)) := by
  unfold f217_notes sNote
  rw [ht, if_neg (by decide), h5, zn_zi (by omega)]
  by_cases c : l = 150
  · subst c
    rw [if_pos (show znn 150 = 150 from rfl), if_pos rfl]
    congr 1
    funext o
    unfold zw
    split
    · rename_i h; rw [h]
    · rfl
  · rw [if_neg (show ¬ znn l = 150 by rw [show (150 : Int32) = znn 150 from rfl, zn_eq (by omega) (by omega)]; exact c), if_neg c]
    have e : (578 : Int32) + 4 * znn l = znn (578 + 4 * l) := by rw [show (578 : Int32) = znn 578 from rfl, zl4, zn_mul, zn_add]
    have e1 : znn (578 + 4 * l) + 1 = znn (579 + 4 * l) := by rw [zl1, zn_add]; congr 1; omega
    have e2 : znn (578 + 4 * l) + 2 = znn (580 + 4 * l) := by rw [zl2, zn_add]; congr 1; omega
    have e3 : znn (578 + 4 * l) + 3 = znn (581 + 4 * l) := by rw [zl3, zn_add]; congr 1; omega
    simp only [zlet]
    rw [e, e1, e2, e3, if_pos ((zn_zin (by omega)).mpr (by omega)), if_pos ((zn_zin (by omega)).mpr (by omega)), if_pos ((zn_zin (by omega)).mpr (by omega)), if_pos ((zn_zin (by omega)).mpr (by omega)), zn_zi (by omega), zn_zi (by omega), zn_zi (by omega), zn_zi (by omega)]
    congr 1
    funext o
    simp only [zs, zw]
    by_cases ho : o = 149
    · subst ho
      simp only [if_true]
      funext j
      simp only [upd]
      have : ¬ (5 : Nat) = 578 + 4 * l := by omega
      have : ¬ (5 : Nat) = 579 + 4 * l := by omega
      have : ¬ (5 : Nat) = 580 + 4 * l := by omega
      have : ¬ (5 : Nat) = 581 + 4 * l := by omega
      simp only [*, if_false, h5]
    · simp only [if_neg ho]
theorem sNote_5 {w : Nat → Int32} {x y z : Int32} {l : Nat} (hl : l ≤ 150) (h5 : w 5 = znn l) : ∃ l', l' ≤ 150 ∧ l ≤ l' ∧ sNote w x y z 5 = znn l' := by
  unfold sNote
  rw [h5, zn_zi (by omega)]
  split
  · exact ⟨l, hl, Nat.le_refl _, h5⟩
  · exact ⟨l + 1, by omega, by omega, by unfold upd; rw [if_pos rfl, zl1, zn_add]⟩
theorem sNote_lo {w : Nat → Int32} {x y z : Int32} {j : Nat} (h5 : j ≠ 5) (hj : j < 578 ∨ 1178 ≤ j) (hl : zi (w 5) ≤ 150) : sNote w x y z j = w j := by
  unfold sNote
  split
  · rfl
  · unfold upd
    rw [if_neg h5, if_neg (by omega), if_neg (by omega), if_neg (by omega), if_neg (by omega)]
theorem sNote_F {w : Nat → Int32} {x y z : Int32} (hl : zi (w 5) ≤ 150) : rowF w (sNote w x y z) := fun j h1 h2 => sNote_lo (by omega) (by omega) hl
theorem zr_ap (R : ZF) (o k : Nat) (v : Option Nat) (o' : Nat) : (zr R o k v) o' = if o' = o then zw (R o) k v else R o' := rfl
theorem zwF_ap {α : Type} (f : Nat → α) (o : Nat) (g : α) (a : Nat) : zw f o g a = if a = o then g else f a := rfl
theorem gar4 {L : ZY} {q j : Nat} (h : L[q]? = some (0, 4)) (hL : L.length ≤ 900000) (hj : j < 4) : gar L q 0 (znn j) = true := gar_of h (lay_lt h hL) hj (by decide)
theorem lay_new {L : ZY} {q : Nat × Nat} : (L ++ [q])[L.length]? = some q := by simp
theorem gfr_of {L : ZY} (hL : L.length ≤ 890000) : gfr L = true := Nat.blt_eq.mpr (by omega)
theorem land_note {M : ZI} {R : ZF} {L : ZY} {t b n k l : Nat} {w : Nat → Int32} {x y z : Int32} (h : landIs M R L t b w n k) (hL : L.length ≤ 800000) (hn : n ≤ 10) (hk : k ≤ 9) (hr : ruleOk w) (hl : l ≤ 150) (h5 : w 5 = znn l) :
    ∃ M' R' L', g99_notes t x y z 1 M R L = some (M', R', L') ∧ landIs M' R' L' t b (sNote w x y z) n k ∧ hFr (ownL t b n) M R L M' R' L' ∧ (∃ X, L' = L ++ X ∧ X.length ≤ 1 ∧ (X.map Prod.snd).sum ≤ 4) ∧ R' t = R t := by
  obtain ⟨⟨o1, o2, o3, o4, o5, o6⟩, ⟨f0, f1, f2, f3, f4, f5, f6, f7, f8, f9⟩, ⟨hb, hP⟩, hW, hB, hC, hLw⟩ := id h
  have zw5 : zi (w 5) = l := by rw [h5, zn_zi (by omega)]
  unfold g99_notes
  rw [if_neg (by decide), if_pos (gob_of o1 (lay_lt o1 (by omega))), f8, h5]
  by_cases c : l = 150
  · subst c
    have e : sNote w x y z = w := by unfold sNote; rw [if_pos zw5]
    rw [if_neg (by decide), e]
    exact ⟨M, R, L, rfl, h, hFr_refl, ⟨[], by simp, by simp, by simp⟩, rfl⟩
  · rw [if_pos (show znn l < 150 by rw [show (150 : Int32) = znn 150 from rfl, zn_lt (by omega) (by omega)]; omega), o5]
    have hnew : (L ++ [(0, 4)])[L.length]? = some (0, 4) := lay_new
    have hL9 : (L ++ [(0, 4)]).length ≤ 900000 := by simp; omega
    have g0 : gar (L ++ [(0, 4)]) L.length 0 0 = true := gar4 hnew hL9 (j := 0) (by decide)
    have g1 : gar (L ++ [(0, 4)]) L.length 0 1 = true := gar4 hnew hL9 (j := 1) (by decide)
    have g2 : gar (L ++ [(0, 4)]) L.length 0 2 = true := gar4 hnew hL9 (j := 2) (by decide)
    have g3 : gar (L ++ [(0, 4)]) L.length 0 3 = true := gar4 hnew hL9 (j := 3) (by decide)
    have gl : gar (L ++ [(0, 4)]) (t + 3) 51 (znn l) = true := gar_of (lay_app o3) (lay_lt (lay_app o3) hL9) (by omega) (by decide)
    have ge : gek (L ++ [(0, 4)]) L.length 0 = true := gek_of hnew
    have go : gob (L ++ [(0, 4)]) t 10 = true := gob_app (gob_of o1 (lay_lt o1 (by omega)))
    have gf : gfr L = true := gfr_of (by omega)
    have gn4 : gnn 4 = true := by decide
    have zl : zi (znn l) = l := zn_zi (by omega)
    have zf : zi (4 : Int32) = 4 := rfl
    simp only [Option.bind_some, zlet, gnew, gn4, gf, go, g0, g1, g2, g3, gl, ge, if_true, zi_l0, zi_l1, zi_l2, zi_l3, zl, zf]
    refine ⟨_, _, _, rfl, ?_, ?_, ⟨[(0, 4)], rfl, by simp, by simp⟩, ?_⟩
    · have hlt : ∀ {o q}, L[o]? = some q → o ≠ L.length := fun ho => by have := lay_le ho; omega
      have t3 : t + 3 ≠ t := by omega
      have t1 : t + 1 ≠ t := by omega
      have tL := hlt o1
      have t1L := hlt o2
      have t3L := hlt o3
      have tt3 : t ≠ t + 3 := by omega
      have t13 : t + 1 ≠ t + 3 := by omega
      refine landIs_step h hk (sNote_F (by rw [zw5]; exact hl)) hr ?_ ?_ ?_ ?_ ?_ ?_ ?_ ?_
      · refine ⟨⟨_, rfl⟩, fun c hc ho => ?_⟩
        have c1 : c ≠ t := fun hh => ho (Or.inl hh)
        have c3 : c ≠ t + 3 := fun hh => ho (Or.inr (Or.inr (Or.inl hh)))
        have cL : c ≠ L.length := by omega
        simp only [zs_ap, zwF_ap, zr_ap, if_neg c1, if_neg c3, if_neg cL, and_self]
      · refine ⟨lay_app o1, lay_app o2, lay_app o3, ?_, ?_, o6⟩
        · simp only [zr_ap, zwF_ap, if_neg tt3, if_neg tL]; exact o4
        · simp only [zr_ap, zwF_ap, if_neg tt3, if_neg tL]; exact o5
      · have lo : ∀ j, j < 578 → j ≠ 5 → sNote w x y z j = w j := fun j hj hj5 => sNote_lo hj5 (Or.inl hj) (by omega)
        have e5 : sNote w x y z 5 = znn (l + 1) := by
          unfold sNote
          rw [zw5, if_neg c]
          unfold upd
          rw [if_pos rfl, h5, zl1, zn_add]
        unfold lndF
        simp only [zs_ap, zwF_ap, upd_ap, if_neg tL, if_true]
        rw [lo 4 (by decide) (by decide), lo 0 (by decide) (by decide), lo 1 (by decide) (by decide), lo 49 (by decide) (by decide), lo 50 (by decide) (by decide), lo 2 (by decide) (by decide), lo 3 (by decide) (by decide), lo 48 (by decide) (by decide), lo 6 (by decide) (by decide), e5]
        refine ⟨f0, f1, f2, f3, f4, f5, f6, f7, ?_, f9⟩
        rw [zl1, zn_add]
      · refine ⟨hb, fun p hp => ?_⟩
        obtain ⟨p1, p2, p3⟩ := hP p hp
        have bL := hlt p2
        have bt : b + p ≠ t := by intro hh; rw [hh, o1] at p2; cases p2
        have bt3 : b + p ≠ t + 3 := by intro hh; rw [hh, o3] at p2; cases p2
        refine ⟨?_, lay_app p2, ?_⟩
        · simp only [zr_ap, zwF_ap, if_neg t13, if_neg t1L]; exact p1
        · have lo : ∀ j, j < 578 → j ≠ 5 → sNote w x y z j = w j := fun j hj hj5 => sNote_lo hj5 (Or.inl hj) (by omega)
          unfold lndQ
          simp only [zs_ap, zwF_ap, if_neg bL, if_neg bt]
          rw [lo _ (by omega) (by omega), lo _ (by omega) (by omega), lo _ (by omega) (by omega), lo _ (by omega) (by omega), lo _ (by omega) (by omega), lo _ (by omega) (by omega), lo _ (by omega) (by omega)]
          exact p3
      · intro i hi
        have e5 : zi (sNote w x y z 5) = l + 1 := by
          unfold sNote
          rw [zw5, if_neg c]
          unfold upd
          rw [if_pos rfl, h5, zl1, zn_add, zn_zi (by omega)]
        rw [e5] at hi
        by_cases hil : i = l
        · subst hil
          refine ⟨L.length, by have := lay_le o1; omega, ?_, hnew, ?_⟩
          · simp only [zr_ap, zwF_ap, if_true]
          · intro f hf
            have ef : sNote w x y z (578 + 4 * i + f) = if f = 0 then w 0 else if f = 1 then x else if f = 2 then y else z := by
              unfold sNote
              rw [zw5, if_neg c]
              unfold upd
              rw [if_neg (by omega)]
              have hf4 : f = 0 ∨ f = 1 ∨ f = 2 ∨ f = 3 := by omega
              rcases hf4 with rfl | rfl | rfl | rfl
              · rw [if_neg (by omega), if_neg (by omega), if_neg (by omega), if_pos (by omega)]; rfl
              · rw [if_neg (by omega), if_neg (by omega), if_pos (by omega)]; rfl
              · rw [if_neg (by omega), if_pos (by omega)]; rfl
              · rw [if_pos (by omega)]; rfl
            rw [ef]
            simp only [zs_ap, upd_ap, zwF_ap, if_true]
            have hf4 : f = 0 ∨ f = 1 ∨ f = 2 ∨ f = 3 := by omega
            rcases hf4 with rfl | rfl | rfl | rfl
            · simp [tL]
              exact f1
            · simp
            · simp
            · simp
        · obtain ⟨r, r1, r2, r3, r4⟩ := hB i (by omega)
          have rL := hlt r3
          have rt : r ≠ t := by intro hh; rw [hh, o1] at r3; cases r3
          refine ⟨r, r1, ?_, lay_app r3, fun f hf => ?_⟩
          · simp only [zr_ap, zwF_ap, if_true, if_neg hil, if_neg t3L]
            exact r2
          · simp only [zs_ap, zwF_ap, if_neg rL, if_neg rt]
            rw [r4 f hf]
            unfold sNote
            rw [zw5, if_neg c]
            unfold upd
            rw [if_neg (by omega), if_neg (by omega), if_neg (by omega), if_neg (by omega), if_neg (by omega)]
      · simp only [zr_ap, zwF_ap, if_neg tt3, if_neg tL]
      · simp only [zr_ap, zwF_ap, if_neg tt3, if_neg tL]
      · simp only [zr_ap, zwF_ap, if_neg tt3, if_neg tL]
    · refine ⟨⟨_, rfl⟩, fun c hc ho => ?_⟩
      have c1 : c ≠ t := fun hh => ho (Or.inl hh)
      have c3 : c ≠ t + 3 := fun hh => ho (Or.inr (Or.inr (Or.inl hh)))
      have cL : c ≠ L.length := by omega
      simp only [zs_ap, zwF_ap, zr_ap, if_neg c1, if_neg c3, if_neg cL, and_self]
    · have := lay_le o1
      have tL : t ≠ L.length := by omega
      have tt3 : t ≠ t + 3 := by omega
      simp only [zr_ap, zwF_ap, if_neg tt3, if_neg tL]
