-- ===== one YEAR of the law's loop =====
theorem zs_same {B : ZI} {o k : Nat} {v : Int32} (h : B o k = v) : zs B o k v = B := by
  funext o' k'
  rw [zs_ap]
  by_cases ho : o' = o
  · subst ho
    rw [if_pos rfl, upd_ap]
    by_cases hk : k' = k
    · rw [if_pos hk, hk, h]
    · rw [if_neg hk]
  · rw [if_neg ho]
theorem Inv2_nk {M B : ZI} {n k : Nat} (h : Inv2 M B) (h48 : B 149 48 = znn n) (hn : n ≤ 10) (h52 : B 149 52 = znn k) (hk : k ≤ 9) : ∃ c b, fixOk (B 149) n k c b ∧ momOk (B 149) n 999 := by
  obtain ⟨k', c, b, h0, -⟩ := Inv2_n h h48 hn
  have hw := h0.2.1.2.2.1
  have e : k' = k := by
    have h1 := hw.2.1
    have h2 := hw.1
    rw [h52] at h1
    exact ((zn_eq (by omega) (by omega)).mp h1).symm
  subst e
  exact ⟨c, b, h0.2.1, h0.2.2.2.1⟩
theorem years_one {B Bk B3 : ZI} {v : Int32} {y : Nat} (hy : y ≤ 900) (h0 : B 149 0 = znn y) (hk : f200_keeps (zs B 148 30 1) = some Bk) (hv : f204_aYear Bk = some (v, B3)) : ∃ x, f203_years 1 B = some (x, B3) := by
  unfold f203_years
  rw [show f149_isIn 1 1 40 = some 1 by decide]
  simp only [Option.bind_some, zlet]
  rw [if_neg (by decide), h0, zadd1, if_neg (show ¬ (999 : Int32) < znn (y + 1) by rw [show (999 : Int32) = znn 999 from rfl, zn_lt (by decide) (by omega)]; omega)]
  rw [show zfu = 99998 + 1 + 1 from rfl, f203_l35, if_pos (by decide), hk]
  simp only [Option.bind_some]
  rw [hv]
  simp only [Option.bind_some, zlet]
  by_cases h : v = -1
  · rw [if_pos h, f203_l35, if_neg (by decide)]
    exact ⟨_, rfl⟩
  · rw [if_neg h, f203_l35, if_neg (by decide)]
    exact ⟨_, rfl⟩
theorem rows_end {M : ZI} {R : ZF} {L : ZY} {t b n k : Nat} {w : Nat → Int32} (h : landIs M R L t b w n k) : t < L.length ∧ (0 < n → b + n ≤ L.length) := by
  obtain ⟨hO, -, ⟨-, hP⟩, -⟩ := h
  refine ⟨lay_le hO.1, fun hn => ?_⟩
  have := lay_le (hP (n - 1) (by omega)).2.1
  omega
theorem year_step {M A Bg : ZI} {R : ZF} {L : ZY} {r14 m n k Y : Nat} {T Bb : Nat → Nat} (hI : Inv2 A Bg) (h : LWx M R L (zs Bg 148 30 1) T Bb m n k Y) (hs : SH R L r14 T m) (hL : L.length ≤ 500000) (hY : Y ≤ 900) : ∃ v M' R' L' A' Bk B3 T' Bb' m',
    (∀ fuel giv i N, i < N → N ≤ 1000 → g152_l162 r14 (T m) (znn N) (fuel + 1) (znn m) giv (znn i) M R L = if v < 0 then g152_l162 r14 (T m) (znn N) fuel (znn m') giv (znn (i + 1)) M' R' L' else g152_l162 r14 (T m) (znn N) fuel (znn m') (giv + 1) (znn (i + 1)) M' R' L') ∧
    f200_keeps (zs Bg 148 30 1) = some Bk ∧ f204_aYear Bk = some (v, B3) ∧ (v < 0 ↔ v = -1) ∧ Inv2 A' B3 ∧ B3 148 30 = 1 ∧ LWx M' R' L' B3 T' Bb' m' n k (Y + 1) ∧ SH R' L' r14 T' m' ∧ T' m' = T m ∧ (∀ c, c < 148 → M' c = M c) ∧ ∃ X, L' = L ++ X ∧ X.length ≤ 25 ∧ (X.map Prod.snd).sum ≤ 300 := by
  have hc := LWx_cur h
  obtain ⟨a1, a2, a3, a4, a5, a6, a7, a8, a9, a10, a11⟩ := id h
  have h148 := zg_len a1
  have e149 : (zs Bg 148 30 1) 149 = Bg 149 := zs_df (by decide)
  have hrul : ruleOk ((zs Bg 148 30 1) 149) := by rw [e149]; exact Inv2_rule hI
  obtain ⟨c, bd, hok, hmo⟩ := Inv2_nk (k := k) hI (by rw [← e149]; exact a5) a2 (by rw [← e149]; exact a6) a3
  have hT13 : ∀ j, j ≤ m → L[T j]? = some (13, 15) := fun j hj => (a9 j hj).1.1.1
  have hrl := lay_le hs.1
  -- room on the shelf
  let p := if m = 6 then 5 else m
  have hp6 : p < 6 := by show (if m = 6 then 5 else m) < 6; split <;> omega
  obtain ⟨R1, hR1, hsh, hm6, hR6⟩ : ∃ R1, (∀ c, c ≠ r14 → R1 c = R c) ∧ SH R1 L r14 (shU m T) p ∧ (m = 6 → g152_l179 r14 L zfu 1 R = some R1) ∧ (m ≠ 6 → R1 = R) := by
    by_cases h6 : m = 6
    · obtain ⟨R1, e1, -, e3, e4⟩ := SH_room hs h6 (by omega) (fun j hj => hT13 j (by omega))
      refine ⟨R1, e3, ?_, fun _ => e1, fun hh => absurd h6 hh⟩
      show SH R1 L r14 (fun j => if m = 6 then T (j + 1) else T j) (if m = 6 then 5 else m)
      simp only [h6, if_true]
      exact e4
    · refine ⟨R, fun _ _ => rfl, ?_, fun hh => absurd hh h6, fun _ => rfl⟩
      show SH R L r14 (fun j => if m = 6 then T (j + 1) else T j) (if m = 6 then 5 else m)
      simp only [h6, if_false]
      exact hs
  have hg1 : gF (fun c => c = r14) M R L M R1 L := gF_shelf hs.2.1 hR1
  have h1 : LWx M R1 L (zs Bg 148 30 1) T Bb m n k Y := LWx_gF h hg1 (fun c x y hcc hl => by rw [hcc, hs.1] at hl; cases hl; exact Or.inl rfl)
  have hz1 := h1.1
  have hc1 := LWx_cur h1
  -- the copy
  obtain ⟨l, hl, h5⟩ := hmo.2.2.1
  obtain ⟨M2, R2, e2, f2, g2, i13, i14⟩ := land_copy hc1 (by omega) a3 a2 a5 hl (by rw [e149]; exact h5) hz1
  let L2 : ZY := L ++ cpL n
  let X := L.length
  have hL2 : L2.length = L.length + (n + 4) := by simp [L2, cpL_len]
  have hL2' : (L ++ cpL n).length = L.length + (n + 4) := hL2
  have hg2 : gF (fun _ => False) M R1 L M2 R2 L2 := gF_hFr g2 h148 (fun _ hh => hh.elim)
  have h2 : LWx M2 R2 L2 (zs Bg 148 30 1) T Bb m n k Y := LWx_gF h1 hg2 (fun _ _ _ hh => hh.elim)
  -- the reference keeps
  obtain ⟨Bk, m', k1, k2, k3⟩ := kpt_of a4 a8
  have hm' : m' = p + 1 := by rw [k2.1]; show _ = (if m = 6 then 5 else m) + 1; split <;> rfl
  have hrows : ∀ j, j ≤ m → X ≠ T j ∧ (L.length + 4 + n ≤ Bb j ∨ Bb j + n ≤ L.length + 4) := fun j hj => by
    obtain ⟨q1, q2⟩ := rows_end (a9 j hj).1
    refine ⟨by show L.length ≠ T j; omega, ?_⟩
    by_cases hn : 0 < n
    · have := q2 hn; omega
    · omega
  have h3 := LWx_push (X := X) (Bx := L.length + 4) h2 f2 hrows (by rw [show R2 X 14 = R1 (T m) 14 from i14, (hg2.2.1 (T m) hc1.1.2.2.2.2.2 (lay_le hc1.1.1) (fun hh => hh)).2]) k2 k3
  -- it is put on the shelf
  have hs2 : SH R2 L2 r14 (shU m T) p := SH_gF hsh hg2 (fun hh => hh)
  let T' := pushT m m' T X
  let Bb' := pushT m m' Bb (L.length + 4)
  have hTm : T' m' = T m := if_pos rfl
  have hTp : T' (m' - 1) = X := by
    show (if m' - 1 = m' then T m else if m' - 1 = m' - 1 then X else _) = X
    rw [if_neg (by omega), if_pos rfl]
  have hs2' : SH R2 L2 r14 T' (m' - 1) := ⟨hs2.1, hs2.2.1, fun j hj => by
    rw [hs2.2.2 j (by omega)]
    show some (if m = 6 then T (j + 1) else T j) = some (if j = m' then T m else if j = m' - 1 then X else if m = 6 then T (j + 1) else T j)
    rw [if_neg (show ¬ j = m' by omega), if_neg (show ¬ j = m' - 1 by omega)]⟩
  let R3 : ZF := zr R2 r14 (m' - 1) (some X)
  have hs3 : SH R3 L2 r14 T' m' := SH_put hs2' (by omega) hTp
  have hg3 : gF (fun c => c = r14) M2 R2 L2 M2 R3 L2 := gF_shelf hs.2.1 (fun c hc => zr_off hc)
  have h4 : LWx M2 R3 L2 Bk T' Bb' m' n k Y := LWx_gF h3 hg3 (fun c x y hcc hl => by rw [hcc, hs2.1] at hl; cases hl; exact Or.inl rfl)
  -- the YEAR
  have hc4 := LWx_cur h4
  have eBk : Bk 149 = Bg 149 := k3.trans e149
  have hBk30 : Bk 148 30 = 1 := by rw [k2.2.2.2.1 30 (by decide), zs_sm, if_pos rfl]
  obtain ⟨v, M5, R5, L5, B3, p1, p2, p3, p4, p5, p6, p7, p8, p9, p10, p11⟩ := land_pass (c := c) (bd := bd) (Y := 999) hc4 (by omega) a3 (by rw [eBk]; exact hok) (by rw [eBk]; exact hmo) (by decide) hBk30 h4.1
  have hcO := hc4.1
  have hcP := hc4.2.2.1
  have hg5 : gF (ownL (T' m') (Bb' m') n) M2 R3 L2 M5 R5 L5 := gF_hFr p4 (by omega) (fun c hc => lndO_own hcO hcP.1 hc)
  obtain ⟨yy, hyy, ey⟩ := (a9 m (Nat.le_refl _)).2.2.2
  rw [rwW_m] at ey
  obtain ⟨x1, hx1⟩ := years_one (B := Bg) (show yy ≤ 900 by omega) (by rw [← e149]; exact ey) k1 p2
  obtain ⟨u, A', B3', q1, q2, q3, -⟩ := sync_years 1 A Bg hI
  rw [hx1] at q2
  cases q2
  have hyear : ∃ y, y ≤ Y + 1 ∧ B3 149 0 = znn y := ⟨yy + 1, by omega, by rw [p11, k3, ey, zadd1]⟩
  have ho : ∀ o, o ≠ 149 → o ≠ 159 → o ≠ 160 → B3 o = Bk o := p10
  have h6 : LWx M5 R5 L5 B3 T' Bb' m' n k (Y + 1) := LWx_op h4 (by rw [k3]; exact hrul) hg5 p3 (by rw [p6]) (ho 151 (by decide) (by decide) (by decide)) (by rw [ho 148 (by decide) (by decide) (by decide)]) (by rw [ho 148 (by decide) (by decide) (by decide)]) (fun x q1 q2 => p7 x q1 q2) (by obtain ⟨⟨l', q1, q2, -⟩, -⟩ := p8; exact ⟨l', q1, q2⟩) (by obtain ⟨⟨l', q1, q2, q3⟩, -⟩ := p8; rw [q2, zn_zi (by omega)]; exact q3) p8.2 hyear (by omega)
  have hr14 : ¬ ownL (T' m') (Bb' m') n r14 := not_own hcO.1 hcO.2.1 hcO.2.2.1 (fun q hq => (hcP.2 q hq).2.1) hs2.1 (by simp)
  refine ⟨v, M5, R5, L5, A', Bk, B3, T', Bb', m', fun fuel giv i N hi hN => ?_, k1, p2, ?_, q3, by rw [ho 148 (by decide) (by decide) (by decide)]; exact hBk30, h6, SH_gF hs3 hg5 hr14, hTm, fun c hc => ?_, ?_⟩
  · have hpz : znn p + 1 = znn m' := by rw [zadd1, hm']
    have hp1 : m' - 1 = p := by omega
    have hbody : ∀ RR : ZF, RR = R1 → (if gob L (T m) 10 = true then (g91_copy (T m) M RR L).bind fun (r215, M216, R217, L218) => if gar L218 r14 52 (znn p) = true then if gek L218 r215 13 = true then zlet (zr R217 r14 (zi (znn p)) (some r215)) fun (R221 : ZF) => if gob L218 (T m) 10 = true then (g98_passes (T m) (1 : Int32) M216 R221 L218).bind fun (v223, M224, R225, L226) => (if v223 < 0 then g152_l162 r14 (T m) (znn N) fuel (znn p + (1 : Int32)) giv (znn i + (1 : Int32)) M224 R225 L226 else g152_l162 r14 (T m) (znn N) fuel (znn p + (1 : Int32)) (giv + (1 : Int32)) (znn i + (1 : Int32)) M224 R225 L226) else none else none else none else none : Option (Int32 × Int32 × ZI × ZF × ZY)) = if v < 0 then g152_l162 r14 (T m) (znn N) fuel (znn m') giv (znn (i + 1)) M5 R5 L5 else g152_l162 r14 (T m) (znn N) fuel (znn m') (giv + 1) (znn (i + 1)) M5 R5 L5 := fun RR hRR => by
      subst hRR
      rw [if_pos (gob_of (hT13 m (Nat.le_refl _)) (by have := lay_le (hT13 m (Nat.le_refl _)); omega)), e2]
      simp only [Option.bind_some, zlet]
      rw [if_pos (show gar (L ++ cpL n) r14 52 (znn p) = true from gar52 hs2.1 (by omega) hp6), if_pos (gek_of f2.1.1), if_pos (gob_of (lay_app (hT13 m (Nat.le_refl _))) (by have := lay_le (hT13 m (Nat.le_refl _)); omega)), zn_zi (show p < 2147483648 by omega), hpz, zadd1, ← hp1]
      rw [show g98_passes (T m) 1 M2 (zr R2 r14 (m' - 1) (some L.length)) (L ++ cpL n) = some (v, M5, R5, L5) by rw [← hTm]; exact p1]
      rfl
    rw [g152_l162, if_pos ((zn_lt (by omega) (by omega)).mpr hi)]
    simp only [zlet]
    by_cases h6 : m = 6
    · have hp5 : p = 5 := by show (if m = 6 then 5 else m) = 5; rw [if_pos h6]
      rw [if_pos (show znn m = 6 by rw [h6]; rfl), hm6 h6]
      simp only [Option.bind_some]
      have := hbody R1 rfl
      rw [hp5] at this
      rw [show znn m + -1 = znn 5 by rw [h6]; rfl]
      exact this
    · have hpm : p = m := by show (if m = 6 then 5 else m) = m; rw [if_neg h6]
      rw [if_neg (show ¬ znn m = 6 by rw [show (6 : Int32) = znn 6 from rfl, zn_eq (by omega) (by decide)]; exact h6)]
      have := hbody R (hR6 h6).symm
      rw [hpm] at this
      exact this
  · rcases p9 with rfl | ⟨q, hq, rfl⟩
    · exact ⟨fun _ => rfl, fun _ => by decide⟩
    · exact ⟨fun hh => absurd hh (by rw [zl0, zn_lt (by omega) (by decide)]; omega), fun hh => absurd hh (zn_ne_neg (by omega))⟩
  · have : ¬ ownL (T' m') (Bb' m') n c := fun hh => by have := lndO_own hcO hcP.1 hh; omega
    rw [(p4.2 c (by omega) this).1, (g2.2 c (by omega) (fun hh => hh)).1]
  · obtain ⟨X5, x1, x2, x3⟩ := p5
    refine ⟨cpL n ++ X5, by rw [x1]; simp [L2], by rw [List.length_append, cpL_len]; omega, by rw [List.map_append, List.sum_append, cpL_sum]; omega⟩
