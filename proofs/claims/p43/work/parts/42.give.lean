-- ===== who is GIVEN: what he does, in step =====
theorem pBest_4096 {w : Nat → Int32} {k p h d x : Nat} (hk : k ≤ 12) (hx : pBest w k p h d (2 ^ k) x) : x < 2 ^ k ∧ x < 4096 ∧ wSum w 1 x k ≤ h := by
  have h4 := pow_4096 hk
  have hp := Nat.two_pow_pos k
  have h1 : x < 2 ^ k := by rcases pBest_lt hx with h | h <;> omega
  refine ⟨h1, by omega, ?_⟩
  rcases pBest_qual hx with rfl | hq
  · rw [wSum_0]; omega
  · exact hq.2.1
/-- the row when the WORKS x are done, ahead of all else -/
def rowG (w : Nat → Int32) (k d x : Nat) : Nat → Int32 := upd (upd w 6 (znn (d ||| x))) 3 (w 3 + znn (wSum w 2 x k))
theorem rowG_F {w : Nat → Int32} {k d x : Nat} : rowF w (rowG w k d x) := fun j a _ => by
  unfold rowG
  rw [upd_ap, if_neg (by omega), upd_ap, if_neg (by omega)]
theorem rowG_lo {w : Nat → Int32} {k d x j : Nat} (h3 : j ≠ 3) (h6 : j ≠ 6) : rowG w k d x j = w j := by
  unfold rowG
  rw [upd_ap, if_neg h3, upd_ap, if_neg h6]
theorem momOk_G {w : Nat → Int32} {n Y k d x : Nat} (h : momOk w n Y) (hd : d < 4096) (hx : x < 4096) : momOk (rowG w k d x) n Y := by
  obtain ⟨h1, ⟨y, hy, h2, h3⟩, h4, -, h6⟩ := h
  refine ⟨by rw [rowG_lo (by omega) (by omega)]; exact h1, ⟨y, hy, by rw [rowG_lo (by omega) (by omega)]; exact h2, fun p hp => by rw [rowG_lo (by omega) (by omega)]; exact h3 p hp⟩, by rw [rowG_lo (by omega) (by omega)]; exact h4, ⟨d ||| x, Nat.or_lt_two_pow (n := 12) hd hx, by unfold rowG; rw [upd_ap, if_neg (by omega), upd_ap, if_pos rfl]⟩, fun p hp => ?_⟩
  rw [rowG_lo (by omega) (by omega), rowG_lo (by omega) (by omega)]
  exact h6 p hp
theorem momIs_G {A : ZI} {a : Nat} {w : Nat → Int32} {n k d x : Nat} (h : momIs A a w n) (h6 : w 6 = znn d) : momIs (zs (zs A a 8 (A a 8 ||| znn x)) a 7 (A a 7 + znn (wSum w 2 x k))) a (rowG w k d x) n := by
  obtain ⟨⟨m1, m2, m3, m4, m5, m6, m7⟩, m8⟩ := h
  refine ⟨?_, fun p hp => ?_⟩
  · simp only [zs_ap, upd_ap, Nat.reduceEqDiff, ↓reduceIte, rowG]
    refine ⟨m1, m2, m3, by rw [m4], by rw [m5, h6, zn_or], m6, m7⟩
  · have e : ∀ q, q ≠ a → (zs (zs A a 8 (A a 8 ||| znn x)) a 7 (A a 7 + znn (wSum w 2 x k))) q = A q := fun q hq => by rw [zs_ap, if_neg hq, zs_ap, if_neg hq]
    rw [e _ (by omega), e _ (by omega), e _ (by omega), e _ (by omega), rowG_lo (by omega) (by omega), rowG_lo (by omega) (by omega), rowG_lo (by omega) (by omega), rowG_lo (by omega) (by omega)]
    exact m8 p hp
/-- the class, up to what THE LAW tells of wear and notice -/
theorem give_cls {A : ZI} {w : Nat → Int32} {a n k c b Y p e d : Nat} {r : Int32} (ha : a = 2 ∨ a = 114) (hp : p < n) (hf : fixIs A 1 w n k c b) (hok : fixOk w n k c b) (hm : momIs A a w n) (hmo : momOk w n Y) (h1 : w 1 = znn e) (he : e ≤ 24) (h6 : w 6 = znn d) (hd : d < 4096) {x : Nat} (hx : pBest w k p (24 - e) d (2 ^ k) x) :
    ∃ A1, f38_giveTo 1 a (znn p) r A = ((f23_wearBy a (sAsk (rowG w k d x) 21 p (wSum w 1 x k)) A1).bind fun M11 => if r = 0 then some M11 else (f44_draw a 1000 M11).bind fun x_1 => ((if x_1.1 < sAsk (rowG w k d x) 22 p (wSum w 1 x k) then some (1 : Int32) else some 0) : Option Int32).bind fun v14 => ((if v14 = 0 then some (0 : Int32) else some 1) : Option Int32).bind fun v15 => (f45_enter 1 a (znn p) (znn x) v14 (zs x_1.2 a 6 (x_1.2 a 6 + v15))).bind fun M17 => some M17)
      ∧ fixIs A1 1 (rowG w k d x) n k c b ∧ momIs A1 a (rowG w k d x) n ∧ ∀ o, o ≠ 16 → o ≠ 41 → o ≠ a → A1 o = A o := by
  have hn10 := hok.1.1
  have hwk := hok.2.2.1
  obtain ⟨x1, x2, x3⟩ := pBest_4096 hwk.1 hx
  have hwi : wrkIs A 21 w k := hf.2.2.1
  obtain ⟨x', hx', ex⟩ := plan_cls (M := A) hwi hwk hn10 hp (show 24 - e ≤ 24 by omega) hd
  have hxx := pBest_uniq hx' hx
  subst hxx
  have m4 : A a 4 = znn e := hm.1.1.trans h1
  have m8 : A a 8 = znn d := hm.1.2.2.2.2.1.trans h6
  have hu : wSum w 1 x' k ≤ 24 := by omega
  have hfr : ∀ q v v', (∀ o, o ≠ a → (zs (zs A a q v) a 7 v') o = A o) := fun q v v' o ho => by rw [zs_ap, if_neg ho, zs_ap, if_neg ho]
  have hfixG : ∀ v v', fixIs (zs (zs A a 8 v) a 7 v') 1 (rowG w k d x') n k c b := fun v v' => fixIs_row rowG_F hok (fixIs_of hf (fun o ho => hfr 8 v v' o (by rcases ha with rfl | rfl <;> omega)))
  have hwi4 : wrkIs (zs A a 8 (A a 8 ||| znn x')) 21 w k := by
    have : ∀ o, o ≠ a → (zs A a 8 (A a 8 ||| znn x')) o = A o := fun o ho => by rw [zs_ap, if_neg ho]
    unfold wrkIs at hwi ⊢
    rw [this 21 (by omega), this (21 + 1) (by omega), this (21 + 2) (by omega), this (21 + 3) (by omega), this (21 + 4) (by omega), this (21 + 5) (by omega), this (21 + 6) (by omega)]
    exact hwi
  have hm6 := momIs_G (k := k) (x := x') hm h6
  have hmo6 := momOk_G (k := k) hmo hd x2
  obtain ⟨A7, a1, a2⟩ := asks_cls (u := wSum w 1 x' k) (W := 257) (W' := 21) ha hp hu (Or.inr (Or.inl ⟨rfl, rfl⟩)) (hfixG (A a 8 ||| znn x') (A a 7 + znn (wSum w 2 x' k))) (fixOk_row rowG_F hok) hm6 hmo6
  obtain ⟨A8, b1, b2⟩ := asks_cls (M := A7) (u := wSum w 1 x' k) (W := 258) (W' := 22) ha hp hu (Or.inr (Or.inr ⟨rfl, rfl⟩)) (fixIs_of (hfixG (A a 8 ||| znn x') (A a 7 + znn (wSum w 2 x' k))) (fun o ho => a2 o (by omega) (by omega))) (fixOk_row rowG_F hok) (momIs_of hm6 (fun o h1 h2 => a2 o (by omega) (by omega))) hmo6
  refine ⟨A8, ?_, fixIs_of (hfixG (A a 8 ||| znn x') (A a 7 + znn (wSum w 2 x' k))) (fun o ho => (b2 o (by omega) (by omega)).trans (a2 o (by omega) (by omega))), momIs_of hm6 (fun o h1 h2 => (b2 o (by omega) (by omega)).trans (a2 o (by omega) (by omega))), fun o g1 g2 g3 => (b2 o g1 g2).trans ((a2 o g1 g2).trans (hfr 8 _ _ o g3))⟩
  have e24 : (24 : Int32) - znn e = znn (24 - e) := zn_sub (i := 24) he
  unfold f38_giveTo f39_hoursLeft
  rw [m4, e24]
  simp only [Option.bind_some]
  rw [show (1 : Nat) + 20 = 21 from rfl, show (1 : Nat) + 22 = 23 from rfl, show (1 : Nat) + 23 = 24 from rfl, m8, ex]
  simp only [Option.bind_some]
  rw [show f42_sum 21 (znn x') 23 A = some (znn (wSum w 1 x' k)) from sum_cls hwi hwk hn10 (f := 1) (by decide) x2]
  simp only [Option.bind_some, zlet]
  rw [← m8, show f42_sum 21 (znn x') 24 (zs A a 8 (A a 8 ||| znn x')) = some (znn (wSum w 2 x' k)) from sum_cls hwi4 hwk hn10 (f := 2) (by decide) x2]
  simp only [Option.bind_some]
  have e7 : (zs A a 8 (A a 8 ||| znn x')) a 7 = A a 7 := by rw [zs_ap, if_pos rfl, upd_ap, if_neg (by decide)]
  rw [e7, a1]
  simp only [Option.bind_some]
  rw [b1]
  rfl
/-- the reference, up to the same -/
theorem give_ref {B : ZI} {w : Nat → Int32} {n k c b Y p e d : Nat} (hw : B 149 = w) (hp : p < n) (hok : fixOk w n k c b) (hmo : momOk w n Y) (h1 : w 1 = znn e) (he : e ≤ 24) (h6 : w 6 = znn d) (hd : d < 4096) {x : Nat} (hx : pBest w k p (24 - e) d (2 ^ k) x) :
    ∃ B1, f218_gets (znn p) B = ((f217_notes 0 (znn p) (znn (wSum w 1 x k)) B1).bind fun M11 => (f218_l69 (znn x) zfu 0 M11).bind fun M16 => if zin (27 + znn p) 2064 = true then if zin (27 + znn p) 2064 = true then zlet (zs M16 149 (zi (27 + znn p)) (M16 149 (zi (27 + znn p)) + 1)) fun M18 => if zin (37 + znn p) 2064 = true then zlet (zs M18 149 (zi (37 + znn p)) (-1)) fun M19 => (f202_lesser 24 (M19 149 1 + sAsk (rowG w k d x) 21 p (wSum w 1 x k))).bind fun v20 => zlet (zs M19 149 1 v20) fun M21 => if M21 148 30 = 0 then some M21 else (f227_draw 1000 M21).bind fun x_1 => if x_1.1 < sAsk (rowG w k d x) 22 p (wSum w 1 x k) then zlet (zs x_1.2 149 2 (x_1.2 149 2 + 1)) fun M24 => (f217_notes 4 (znn p) 0 M24).bind fun M25 => some M25 else some x_1.2 else none else none else none)
      ∧ B1 149 = rowG w k d x ∧ ∀ o, o ≠ 149 → o ≠ 159 → o ≠ 160 → B1 o = B o := by
  have hn10 := hok.1.1
  have hwk := hok.2.2.1
  obtain ⟨x1, x2, x3⟩ := pBest_4096 hwk.1 hx
  obtain ⟨x', hx', ex⟩ := plan_ref (M := B) (p := p) hw hwk hn10 (show 24 - e ≤ 24 by omega) hd h6
  have hxx := pBest_uniq hx' hx
  subst hxx
  have hu : wSum w 1 x' k ≤ 24 := by omega
  have e24 : (24 : Int32) - znn e = znn (24 - e) := zn_sub (i := 24) he
  have eG : (zs (zs B 149 6 (znn (d ||| x'))) 149 3 (w 3 + znn (wSum w 2 x' k))) 149 = rowG w k d x' := by
    subst hw
    rfl
  obtain ⟨B7, a1, a2⟩ := wear_ref (u := wSum w 1 x' k) eG hp (fixOk_row rowG_F hok) (momOk_G (k := k) hmo hd x2)
  obtain ⟨B8, b1, b2⟩ := notice_ref (M := B7) (u := wSum w 1 x' k) ((a2 149 (by decide) (by decide)).trans eG) hp (fixOk_row rowG_F hok) (momOk_G (k := k) hmo hd x2)
  refine ⟨B8, ?_, (b2 149 (by decide) (by decide)).trans ((a2 149 (by decide) (by decide)).trans eG), fun o g1 g2 g3 => (b2 o g2 g3).trans ((a2 o g2 g3).trans (by rw [zs_ap, if_neg g1, zs_ap, if_neg g1]))⟩
  have hs2 : f221_sumOf (znn x') 2 (zs B 149 6 (znn (d ||| x'))) = some (znn (wSum w 2 x' k)) := by
    have hr : rowF w ((zs B 149 6 (znn (d ||| x'))) 149) := fun j h1 h2 => by rw [zs_ap, if_pos rfl, upd_ap, if_neg (by omega), hw]
    have := sum_ref2 (M := zs B 149 6 (znn (d ||| x'))) (f := 2) rfl (fixOk_row hr hok).2.2.1 hn10 (by decide) x2
    rw [show (2 : Int32) = znn 2 from rfl, this]
    congr 2
    exact wSum_row hr hwk.1 (by decide)
  unfold f218_gets f219_hoursNow
  rw [hw, h1, e24]
  simp only [Option.bind_some]
  rw [ex]
  simp only [Option.bind_some]
  rw [show f221_sumOf (znn x') 1 B = some (znn (wSum w 1 x' k)) from sum_ref2 hw hwk hn10 (f := 1) (by decide) x2]
  simp only [Option.bind_some]
  rw [h6, zn_or]
  have z : ∀ {α : Type} (f : ZI → Option α) (m : ZI), zlet m f = f m := fun f m => rfl
  rw [z, hs2]
  simp only [Option.bind_some]
  rw [z, show (zs B 149 6 (znn (d ||| x'))) 149 3 = w 3 by rw [zs_ap, if_pos rfl, upd_ap, if_neg (by decide), hw], a1]
  simp only [Option.bind_some]
  rw [b1]
  rfl
