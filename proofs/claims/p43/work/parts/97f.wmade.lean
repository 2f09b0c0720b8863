-- ===== the text of a drawn work =====
def sufTx (A : Option Nat) : List Nat := match A with
  | none => [59]
  | some x => [32, 97, 102, 116, 101, 114, 32] ++ (digN x ++ [59])
def aI (A : Option Nat) : Int32 := match A with
  | none => -1
  | some x => znn x
theorem suf_ok {A : Option Nat} (h : ∀ x, A = some x → x < 10) : ascN (sufTx A) ∧ (sufTx A).length ≤ 9 := by
  unfold sufTx
  cases hA : A with
  | none => exact ⟨asc_lit rfl, by simp⟩
  | some x =>
    have := h x hA
    have h2 : (digN x).length = 1 := by unfold digN; rw [if_pos this]; rfl
    exact ⟨asc_app (asc_lit rfl) (asc_app (asc_dig (by omega)) (asc_lit rfl)), by simp [h2]⟩
theorem after_made {β : Type} (K : Nat × ZI × ZF × ZY → Option β) {M : ZI} {R : ZF} {L : ZY} {A : Option Nat} (hA : ∀ x, A = some x → x < 10) (hL : L.length ≤ 600000) (hL2 : 148 ≤ L.length) : ∃ a av M' R' L', ((if aI A < 0 then some (2000002, M, R, L) else if gfr L = true then gnew M R L 14 4 fun (r236 : Nat) (M237 : ZI) (R238 : ZF) (L239 : ZY) => if gin r236 = true then (g117_init r236 M237 R238 L239).bind fun (M241, R242, L243) => if gob L243 r236 11 = true then (g128_append r236 2000008 M241 R242 L243).bind fun (r245, M246, R247, L248) => if gob L248 r245 11 = true then (g119_append r245 (aI A) M246 R247 L248).bind fun (r250, M251, R252, L253) => if gob L253 r250 11 = true then (g128_append r250 2000002 M251 R252 L253).bind fun (r255, M256, R257, L258) => if gob L258 r255 11 = true then (g133_toString r255 M256 R257 L258).bind fun (r260, M261, R262, L263) => some (r260, M261, R262, L263) else none else none else none else none else none else none) : Option (Nat × ZI × ZF × ZY)).bind K = K (a, M', R', L') ∧ strIs M' R' L' a av ((sufTx A).map znn) ∧ L.length ≤ av ∧ hFr (fun _ => False) M R L M' R' L' ∧ ∃ X, L' = L ++ X ∧ X.length ≤ 7 ∧ (X.map Prod.snd).sum ≤ 200 := by
  cases hA2 : A with
  | none =>
    exact ⟨2000002, 3000002, M, R, L, by rw [if_pos (show aI none < 0 by decide)]; rfl, str_c 2 [59] (by decide) rfl, by omega, hFr_refl, [], by simp, by simp, by simp⟩
  | some x =>
    have hx := hA x hA2
    have d1 := dig_le x
    obtain ⟨N1, S1, i1, j1⟩ := sbo_new (M := M) (R := R) (L := L) (by omega) (by omega)
    obtain ⟨N2, S2, K2, w2, i2, j2, -⟩ := sbo_str 12 j1 (str_c (M := N1) (R := S1) (L := L ++ [(14, 4)] ++ [(50, 16)]) 8 [32, 97, 102, 116, 101, 114, 32] (by decide) rfl) (by omega) (by simp) (by decide) (by omega)
    obtain ⟨N3, S3, K3, w3, i3, j3, -⟩ := sbo_int 12 j2 (show x < 100 by omega) (by simp) (by decide) (by omega)
    have v3 := sbo_v j3 (by omega)
    obtain ⟨N5, S5, K5, w5, i5, j5, -⟩ := sbo_str 12 j3 (str_c (M := N3) (R := S3) (L := K3) 2 [59] (by decide) rfl) (by omega) (by simp; omega) (by decide) (by omega)
    obtain ⟨N6, S6, K6, i6, s6, l6, f6, -, X, x1, x2, x3⟩ := sbo_fin j5 (asc_app (asc_app (asc_app (asc_lit rfl) (asc_lit rfl)) (asc_dig (by omega))) (asc_lit rfl)) (by simp; omega) (by omega)
    refine ⟨K5.length, K5.length + 1, N6, S6, K6, ?_, ?_, by omega, f6, X, x1, by omega, by simp at x3; omega⟩
    · rw [if_neg (show ¬ aI (some x) < 0 by show ¬ znn x < 0; rw [zl0, zn_lt (by omega) (by decide)]; omega), if_pos (gfr_of (by omega))]
      simp only [gnew]
      rw [if_pos (show gin L.length = true from Nat.blt_eq.mpr (by omega)), i1]
      simp only [Option.bind_some]
      rw [if_pos (sbo_gob j1 (by omega)), i2]
      simp only [Option.bind_some]
      rw [if_pos (sbo_gob j2 (by omega)), show aI (some x) = znn x from rfl, i3]
      simp only [Option.bind_some]
      rw [if_pos (sbo_gob j3 (by omega)), i5]
      simp only [Option.bind_some]
      rw [if_pos (sbo_gob j5 (by omega)), i6]
      rfl
    · have : ([] : List Nat) ++ [32, 97, 102, 116, 101, 114, 32] ++ digN x ++ [59] = sufTx (some x) := by unfold sufTx; simp
      rw [← this]
      exact s6
def oneTx (W : Nat → Nat) (A : Option Nat) : List Nat := [119, 111, 114, 107, 32] ++ (digN (W 0) ++ ([32, 102, 111, 114, 32] ++ (digN (W 1) ++ ([32, 119, 111, 114, 116, 104, 32] ++ (digN (W 2) ++ ([32, 100, 117, 115, 116, 32] ++ (digN (W 3) ++ ([32, 119, 97, 120, 32] ++ (digN (W 4) ++ sufTx A)))))))))
theorem wTx_one {W : Nat → Nat → Nat} {A : Nat → Option Nat} {m k : Nat} : wTx W A (m + 1) k = oneTx (W k) (A k) ++ wTx W A m (k + 1) := by
  rw [wTx]
  unfold oneTx sufTx
  cases A k <;> simp
theorem dig1 {n : Nat} (h : n < 10) : (digN n).length = 1 := by unfold digN; rw [if_pos h]; rfl
theorem one_ok {W : Nat → Nat} {A : Option Nat} (h0 : W 0 < 10) (h1 : W 1 < 100) (h2 : W 2 < 100) (h3 : W 3 < 10) (h4 : W 4 < 10) (hA : ∀ x, A = some x → x < 10) : ascN (oneTx W A) ∧ (oneTx W A).length ≤ 44 := by
  obtain ⟨s1, s2⟩ := suf_ok hA
  have d1 := dig_le (W 1)
  have d2 := dig_le (W 2)
  refine ⟨asc_app (asc_lit rfl) (asc_app (asc_dig (by omega)) (asc_app (asc_lit rfl) (asc_app (asc_dig h1) (asc_app (asc_lit rfl) (asc_app (asc_dig h2) (asc_app (asc_lit rfl) (asc_app (asc_dig (by omega)) (asc_app (asc_lit rfl) (asc_app (asc_dig (by omega)) s1))))))))), ?_⟩
  unfold oneTx
  simp [dig1 h0, dig1 h3, dig1 h4]
  omega
theorem work_made {β : Type} (K : Nat × ZI × ZF × ZY → Option β) {M : ZI} {R : ZF} {L : ZY} {W : Nat → Nat} {A : Option Nat} {q : Nat} (hq : L[q]? = some (0, 6)) (hM : ∀ j, j < 5 → M q j = znn (W j)) (h0 : W 0 < 10) (h1 : W 1 < 100) (h2 : W 2 < 100) (h3 : W 3 < 10) (h4 : W 4 < 10) (hA : ∀ x, A = some x → x < 10) (hL : L.length ≤ 590000) (hL2 : 148 ≤ L.length) : ∃ a M' R' L', (if gfr L = true then gnew M R L 14 4 fun (r172 : Nat) (M173 : ZI) (R174 : ZF) (L175 : ZY) => if gin r172 = true then (g117_init r172 M173 R174 L175).bind fun (M177, R178, L179) => if gob L179 r172 11 = true then (g128_append r172 2000003 M177 R178 L179).bind fun (r181, M182, R183, L184) => if gar L184 q 0 (0 : Int32) = true then if gob L184 r181 11 = true then (g119_append r181 (M182 q (zi (0 : Int32))) M182 R183 L184).bind fun (r187, M188, R189, L190) => if gob L190 r187 11 = true then (g128_append r187 2000004 M188 R189 L190).bind fun (r192, M193, R194, L195) => if gar L195 q 0 (1 : Int32) = true then if gob L195 r192 11 = true then (g119_append r192 (M193 q (zi (1 : Int32))) M193 R194 L195).bind fun (r198, M199, R200, L201) => if gob L201 r198 11 = true then (g128_append r198 2000005 M199 R200 L201).bind fun (r203, M204, R205, L206) => if gar L206 q 0 (2 : Int32) = true then if gob L206 r203 11 = true then (g119_append r203 (M204 q (zi (2 : Int32))) M204 R205 L206).bind fun (r209, M210, R211, L212) => if gob L212 r209 11 = true then (g128_append r209 2000006 M210 R211 L212).bind fun (r214, M215, R216, L217) => if gar L217 q 0 (3 : Int32) = true then if gob L217 r214 11 = true then (g119_append r214 (M215 q (zi (3 : Int32))) M215 R216 L217).bind fun (r220, M221, R222, L223) => if gob L223 r220 11 = true then (g128_append r220 2000007 M221 R222 L223).bind fun (r225, M226, R227, L228) => if gar L228 q 0 (4 : Int32) = true then if gob L228 r225 11 = true then (g119_append r225 (M226 q (zi (4 : Int32))) M226 R227 L228).bind fun (r231, M232, R233, L234) => ((if aI A < 0 then some (2000002, M232, R233, L234) else if gfr L234 = true then gnew M232 R233 L234 14 4 fun (r236 : Nat) (M237 : ZI) (R238 : ZF) (L239 : ZY) => if gin r236 = true then (g117_init r236 M237 R238 L239).bind fun (M241, R242, L243) => if gob L243 r236 11 = true then (g128_append r236 2000008 M241 R242 L243).bind fun (r245, M246, R247, L248) => if gob L248 r245 11 = true then (g119_append r245 (aI A) M246 R247 L248).bind fun (r250, M251, R252, L253) => if gob L253 r250 11 = true then (g128_append r250 2000002 M251 R252 L253).bind fun (r255, M256, R257, L258) => if gob L258 r255 11 = true then (g133_toString r255 M256 R257 L258).bind fun (r260, M261, R262, L263) => some (r260, M261, R262, L263) else none else none else none else none else none else none) : Option (Nat × ZI × ZF × ZY)).bind fun (r264, M265, R266, L267) =>
  if gob L267 r231 11 = true then (g128_append r231 r264 M265 R266 L267).bind fun (r269, M270, R271, L272) => if gob L272 r269 11 = true then (g133_toString r269 M270 R271 L272).bind K else none else none else none else none else none else none else none else none else none else none else none else none else none else none else none else none else none else none else none) = K (a, M', R', L') ∧ strIs M' R' L' a (a + 1) ((oneTx W A).map znn) ∧ L.length ≤ a ∧ hFr (fun _ => False) M R L M' R' L' ∧ ∃ X, L' = L ++ X ∧ X.length ≤ 30 ∧ (X.map Prod.snd).sum ≤ 1600 := by
  have ql := lay_le hq
  obtain ⟨one1, one2⟩ := one_ok (W := W) (A := A) h0 h1 h2 h3 h4 hA
  have hsuf := suf_ok hA
  have d1 := dig_le (W 1)
  have d2 := dig_le (W 2)
  have e0 := dig1 h0
  have e3 := dig1 h3
  have e4 := dig1 h4
  have tr : ∀ {M' : ZI} {R' : ZF} {L' : ZY} {s v N S : Nat} {tx : List Nat}, sbOn M R L M' R' L' s v tx N S → N ≤ 100 → (∀ j, j < 6 → gar L' q 0 (znn j) = true) ∧ ∀ j, j < 5 → M' q j = znn (W j) := fun hb hN => by
    have hl := (sbo_len hb).1
    have hfr := hb.2.2.2.1
    exact ⟨fun j hj => gar6 (hFr_lay hfr hq) (by omega) hj, fun j hj => by rw [(hfr.2 q ql (fun hh => hh)).1]; exact hM j hj⟩
  obtain ⟨N1, S1, i1, j1⟩ := sbo_new (M := M) (R := R) (L := L) (by omega) (by omega)
  obtain ⟨N2, S2, K2, w2, i2, j2, -⟩ := sbo_str 46 j1 (str_c (M := N1) (R := S1) (L := L ++ [(14, 4)] ++ [(50, 16)]) 3 [119, 111, 114, 107, 32] (by decide) rfl) (by omega) (by simp) (by decide) (by omega)
  obtain ⟨N3, S3, K3, w3, i3, j3, -⟩ := sbo_int 46 j2 (show W 0 < 100 by omega) (by simp) (by decide) (by omega)
  have v3 := sbo_v j3 (by omega)
  obtain ⟨N4, S4, K4, w4, i4, j4, -⟩ := sbo_str 46 j3 (str_c (M := N3) (R := S3) (L := K3) 4 [32, 102, 111, 114, 32] (by decide) rfl) (by omega) (by simp; omega) (by decide) (by omega)
  obtain ⟨N5, S5, K5, w5, i5, j5, -⟩ := sbo_int 46 j4 h1 (by simp; omega) (by decide) (by omega)
  have v5 := sbo_v j5 (by omega)
  obtain ⟨N6, S6, K6, w6, i6, j6, -⟩ := sbo_str 46 j5 (str_c (M := N5) (R := S5) (L := K5) 5 [32, 119, 111, 114, 116, 104, 32] (by decide) rfl) (by omega) (by simp; omega) (by decide) (by omega)
  obtain ⟨N7, S7, K7, w7, i7, j7, -⟩ := sbo_int 46 j6 h2 (by simp; omega) (by decide) (by omega)
  have v7 := sbo_v j7 (by omega)
  obtain ⟨N8, S8, K8, w8, i8, j8, -⟩ := sbo_str 46 j7 (str_c (M := N7) (R := S7) (L := K7) 6 [32, 100, 117, 115, 116, 32] (by decide) rfl) (by omega) (by simp; omega) (by decide) (by omega)
  obtain ⟨N9, S9, K9, w9, i9, j9, -⟩ := sbo_int 46 j8 (show W 3 < 100 by omega) (by simp; omega) (by decide) (by omega)
  have v9 := sbo_v j9 (by omega)
  obtain ⟨Na, Sa, Ka, wa, ia, ja, -⟩ := sbo_str 46 j9 (str_c (M := N9) (R := S9) (L := K9) 7 [32, 119, 97, 120, 32] (by decide) rfl) (by omega) (by simp; omega) (by decide) (by omega)
  obtain ⟨Nb, Sb, Kb, wb, ib, jb, -⟩ := sbo_int 46 ja (show W 4 < 100 by omega) (by simp; omega) (by decide) (by omega)
  have vb := sbo_v jb (by omega)
  have lb := sbo_len jb
  obtain ⟨a, av, Nc, Sc, Kc, ic, sc, lc, fc, xc⟩ := after_made (fun (r264, M265, R266, L267) =>
  if gob L267 L.length 11 = true then (g128_append L.length r264 M265 R266 L267).bind fun (r269, M270, R271, L272) => if gob L272 r269 11 = true then (g133_toString r269 M270 R271 L272).bind K else none else none) (M := Nb) (R := Sb) (L := Kb) hA (by omega) (by omega)
  have jc := sbo_fr jb fc xc
  obtain ⟨Nd, Sd, Kd, wd, id', jd, -⟩ := sbo_str 46 jc sc (by omega) (by simp; omega) (by decide) (by omega)
  have hT : ([] : List Nat) ++ [119, 111, 114, 107, 32] ++ digN (W 0) ++ [32, 102, 111, 114, 32] ++ digN (W 1) ++ [32, 119, 111, 114, 116, 104, 32] ++ digN (W 2) ++ [32, 100, 117, 115, 116, 32] ++ digN (W 3) ++ [32, 119, 97, 120, 32] ++ digN (W 4) ++ sufTx A = oneTx W A := by unfold oneTx; simp
  rw [hT] at jd
  obtain ⟨Ne, Se, Ke, ie, se, le, fe, -, X, x1, x2, x3⟩ := sbo_fin jd one1 (by omega) (by omega)
  refine ⟨Kd.length, Ne, Se, Ke, ?_, se, le, fe, X, x1, by omega, by omega⟩
  rw [if_pos (gfr_of (by omega))]
  simp only [gnew]
  rw [if_pos (show gin L.length = true from Nat.blt_eq.mpr (by omega)), i1]
  simp only [Option.bind_some]
  rw [if_pos (sbo_gob j1 (by omega)), i2]
  simp only [Option.bind_some]
  rw [if_pos (show gar K2 q 0 0 = true from (tr j2 (by omega)).1 0 (by decide)), if_pos (sbo_gob j2 (by omega)), show N2 q (zi 0) = znn (W 0) from (tr j2 (by omega)).2 0 (by decide), i3]
  simp only [Option.bind_some]
  rw [if_pos (sbo_gob j3 (by omega)), i4]
  simp only [Option.bind_some]
  rw [if_pos (show gar K4 q 0 1 = true from (tr j4 (by omega)).1 1 (by decide)), if_pos (sbo_gob j4 (by omega)), show N4 q (zi 1) = znn (W 1) from (tr j4 (by omega)).2 1 (by decide), i5]
  simp only [Option.bind_some]
  rw [if_pos (sbo_gob j5 (by omega)), i6]
  simp only [Option.bind_some]
  rw [if_pos (show gar K6 q 0 2 = true from (tr j6 (by omega)).1 2 (by decide)), if_pos (sbo_gob j6 (by omega)), show N6 q (zi 2) = znn (W 2) from (tr j6 (by omega)).2 2 (by decide), i7]
  simp only [Option.bind_some]
  rw [if_pos (sbo_gob j7 (by omega)), i8]
  simp only [Option.bind_some]
  rw [if_pos (show gar K8 q 0 3 = true from (tr j8 (by omega)).1 3 (by decide)), if_pos (sbo_gob j8 (by omega)), show N8 q (zi 3) = znn (W 3) from (tr j8 (by omega)).2 3 (by decide), i9]
  simp only [Option.bind_some]
  rw [if_pos (sbo_gob j9 (by omega)), ia]
  simp only [Option.bind_some]
  rw [if_pos (show gar Ka q 0 4 = true from (tr ja (by omega)).1 4 (by decide)), if_pos (sbo_gob ja (by omega)), show Na q (zi 4) = znn (W 4) from (tr ja (by omega)).2 4 (by decide), ib]
  simp only [Option.bind_some]
  refine Eq.trans ic ?_
  show (if gob Kc L.length 11 = true then (g128_append L.length a Nc Sc Kc).bind fun (r269, M270, R271, L272) => if gob L272 r269 11 = true then (g133_toString r269 M270 R271 L272).bind K else none else none) = _
  rw [if_pos (sbo_gob jc (by omega)), id']
  simp only [Option.bind_some]
  rw [if_pos (sbo_gob jd (by omega)), ie]
  rfl
