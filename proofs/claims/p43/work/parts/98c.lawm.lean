-- ===== the law's text with drawn numbers, made in the heap =====
theorem lawTx_ok {D : Nat → Nat} (hD : ∀ q, q < 7 → D q < 100) : ascN (lawTx D) ∧ (lawTx D).length ≤ 160 := by
  have h : ∀ q, (digN (D q)).length ≤ 2 := fun q => (dig_le (D q)).1
  refine ⟨?_, ?_⟩
  · unfold lawTx
    exact asc_app (asc_lit rfl) (asc_app (asc_dig (hD 2 (by decide))) (asc_app (asc_lit rfl) (asc_app (asc_dig (hD 0 (by decide))) (asc_app (asc_lit rfl) (asc_app (asc_dig (hD 1 (by decide))) (asc_app (asc_lit rfl) (asc_app (asc_dig (hD 3 (by decide))) (asc_app (asc_lit rfl) (asc_app (asc_dig (hD 4 (by decide))) (asc_app (asc_lit rfl) (asc_app (asc_dig (hD 5 (by decide))) (asc_app (asc_lit rfl) (asc_app (asc_dig (hD 6 (by decide))) (asc_lit rfl))))))))))))))
  · have h0 := h 0; have h1 := h 1; have h2 := h 2; have h3 := h 3; have h4 := h 4; have h5 := h 5; have h6 := h 6
    unfold lawTx
    simp only [List.length_append, List.length_cons, List.length_nil]
    omega
theorem law_made {β : Type} (K : Nat × ZI × ZF × ZY → Option β) {M : ZI} {R : ZF} {L : ZY} {D : Nat → Nat} {q : Nat} (hq : L[q]? = some (0, 7)) (hM : ∀ j, j < 7 → M q j = znn (D j)) (hD : ∀ q, q < 7 → D q < 100) (hL : L.length ≤ 590000) (hL2 : 148 ≤ L.length) : ∃ a M' R' L', (if gfr L = true then gnew M R L 14 4 fun (r186 : Nat) (M187 : ZI) (R188 : ZF) (L189 : ZY) => if gin r186 = true then (g117_init r186 M187 R188 L189).bind fun (M191, R192, L193) => if gob L193 r186 11 = true then (g128_append r186 2000015 M191 R192 L193).bind fun (r195, M196, R197, L198) => if gar L198 q 0 (2 : Int32) = true then if gob L198 r195 11 = true then (g119_append r195 (M196 q (zi (2 : Int32))) M196 R197 L198).bind fun (r201, M202, R203, L204) => if gob L204 r201 11 = true then (g128_append r201 2000016 M202 R203 L204).bind fun (r206, M207, R208, L209) => if gar L209 q 0 (0 : Int32) = true then if gob L209 r206 11 = true then (g119_append r206 (M207 q (zi (0 : Int32))) M207 R208 L209).bind fun (r212, M213, R214, L215) => if gob L215 r212 11 = true then (g128_append r212 2000017 M213 R214 L215).bind fun (r217, M218, R219, L220) => if gar L220 q 0 (1 : Int32) = true then if gob L220 r217 11 = true then (g119_append r217 (M218 q (zi (1 : Int32))) M218 R219 L220).bind fun (r223, M224, R225, L226) => if gob L226 r223 11 = true then (g128_append r223 2000018 M224 R225 L226).bind fun (r228, M229, R230, L231) => if gar L231 q 0 (3 : Int32) = true then if gob L231 r228 11 = true then (g119_append r228 (M229 q (zi (3 : Int32))) M229 R230 L231).bind fun (r234, M235, R236, L237) => if gob L237 r234 11 = true then (g128_append r234 2000019 M235 R236 L237).bind fun (r239, M240, R241, L242) => if gar L242 q 0 (4 : Int32) = true then if gob L242 r239 11 = true then (g119_append r239 (M240 q (zi (4 : Int32))) M240 R241 L242).bind fun (r245, M246, R247, L248) => if gob L248 r245 11 = true then (g128_append r245 2000020 M246 R247 L248).bind fun (r250, M251, R252, L253) => if gar L253 q 0 (5 : Int32) = true then if gob L253 r250 11 = true then (g119_append r250 (M251 q (zi (5 : Int32))) M251 R252 L253).bind fun (r256, M257, R258, L259) => if gob L259 r256 11 = true then (g128_append r256 2000021 M257 R258 L259).bind fun (r261, M262, R263, L264) => if gar L264 q 0 (6 : Int32) = true then if gob L264 r261 11 = true then (g119_append r261 (M262 q (zi (6 : Int32))) M262 R263 L264).bind fun (r267, M268, R269, L270) => if gob L270 r267 11 = true then (g128_append r267 2000022 M268 R269 L270).bind fun (r272, M273, R274, L275) => if gob L275 r272 11 = true then (g133_toString r272 M273 R274 L275).bind K else none else none else none else none else none else none else none else none else none else none else none else none else none else none else none else none else none else none else none else none else none else none else none else none else none) = K (a, M', R', L') ∧ strIs M' R' L' a (a + 1) ((lawTx D).map znn) ∧ L.length ≤ a ∧ hFr (fun _ => False) M R L M' R' L' ∧ ∃ X, L' = L ++ X ∧ X.length ≤ 30 ∧ (X.map Prod.snd).sum ≤ 6000 := by
  have ql := lay_le hq
  obtain ⟨one1, one2⟩ := lawTx_ok hD
  have d0 := dig_le (D 0)
  have d1 := dig_le (D 1)
  have d2 := dig_le (D 2)
  have d3 := dig_le (D 3)
  have d4 := dig_le (D 4)
  have d5 := dig_le (D 5)
  have d6 := dig_le (D 6)
  have tr : ∀ {M' : ZI} {R' : ZF} {L' : ZY} {s v N S : Nat} {tx : List Nat}, sbOn M R L M' R' L' s v tx N S → N ≤ 100 → (∀ j, j < 7 → gar L' q 0 (znn j) = true) ∧ ∀ j, j < 7 → M' q j = znn (D j) := fun hb hN => by
    have hl := (sbo_len hb).1
    have hfr := hb.2.2.2.1
    exact ⟨fun j hj => gar7 (hFr_lay hfr hq) (by omega) hj, fun j hj => by rw [(hfr.2 q ql (fun hh => hh)).1]; exact hM j hj⟩
  obtain ⟨N0, S0, i0, j0⟩ := sbo_new (M := M) (R := R) (L := L) (by omega) (by omega)
  have v0 := sbo_v j0 (by omega)
  obtain ⟨N1, S1, K1, w1, i1, j1, -⟩ := sbo_str 160 j0 (str_c (M := N0) (R := S0) (L := L ++ [(14, 4)] ++ [(50, 16)]) 15 [119, 101, 105, 103, 104, 116, 32, 110, 101, 101, 100, 47, 52, 43] (by decide) rfl) (by omega) (by simp only [List.length_append, List.length_cons, List.length_nil]; omega) (by decide) (by omega)
  obtain ⟨N2, S2, K2, w2, i2, j2, -⟩ := sbo_int 160 j1 (hD 2 (by decide)) (by simp only [List.length_append, List.length_cons, List.length_nil]; omega) (by decide) (by omega)
  have v2 := sbo_v j2 (by omega)
  obtain ⟨N3, S3, K3, w3, i3, j3, -⟩ := sbo_str 160 j2 (str_c (M := N2) (R := S2) (L := K2) 16 [32, 119, 104, 101, 110, 32, 97, 103, 101, 62] (by decide) rfl) (by omega) (by simp only [List.length_append, List.length_cons, List.length_nil]; omega) (by decide) (by omega)
  obtain ⟨N4, S4, K4, w4, i4, j4, -⟩ := sbo_int 160 j3 (hD 0 (by decide)) (by simp only [List.length_append, List.length_cons, List.length_nil]; omega) (by decide) (by omega)
  have v4 := sbo_v j4 (by omega)
  obtain ⟨N5, S5, K5, w5, i5, j5, -⟩ := sbo_str 160 j4 (str_c (M := N4) (R := S4) (L := K4) 17 [32, 97, 110, 100, 32, 110, 111, 116, 32, 40, 104, 97, 100, 62] (by decide) rfl) (by omega) (by simp only [List.length_append, List.length_cons, List.length_nil]; omega) (by decide) (by omega)
  obtain ⟨N6, S6, K6, w6, i6, j6, -⟩ := sbo_int 160 j5 (hD 1 (by decide)) (by simp only [List.length_append, List.length_cons, List.length_nil]; omega) (by decide) (by omega)
  have v6 := sbo_v j6 (by omega)
  obtain ⟨N7, S7, K7, w7, i7, j7, -⟩ := sbo_str 160 j6 (str_c (M := N6) (R := S6) (L := K6) 18 [32, 111, 114, 32, 119, 111, 114, 110, 62, 57, 41, 59, 119, 101, 105, 103, 104, 116, 32, 115, 105, 110, 99, 101, 45, 104, 97, 100, 42] (by decide) rfl) (by omega) (by simp only [List.length_append, List.length_cons, List.length_nil]; omega) (by decide) (by omega)
  obtain ⟨N8, S8, K8, w8, i8, j8, -⟩ := sbo_int 160 j7 (hD 3 (by decide)) (by simp only [List.length_append, List.length_cons, List.length_nil]; omega) (by decide) (by omega)
  have v8 := sbo_v j8 (by omega)
  obtain ⟨N9, S9, K9, w9, i9, j9, -⟩ := sbo_str 160 j8 (str_c (M := N8) (R := S8) (L := K8) 19 [59, 119, 101, 97, 114, 32, 117, 115, 101, 100, 47, 51, 43, 116, 105, 101, 115, 32, 119, 104, 101, 110, 32, 117, 115, 101, 100, 62] (by decide) rfl) (by omega) (by simp only [List.length_append, List.length_cons, List.length_nil]; omega) (by decide) (by omega)
  obtain ⟨N10, S10, K10, w10, i10, j10, -⟩ := sbo_int 160 j9 (hD 4 (by decide)) (by simp only [List.length_append, List.length_cons, List.length_nil]; omega) (by decide) (by omega)
  have v10 := sbo_v j10 (by omega)
  obtain ⟨N11, S11, K11, w11, i11, j11, -⟩ := sbo_str 160 j10 (str_c (M := N10) (R := S10) (L := K10) 20 [32, 111, 114, 32, 110, 101, 101, 100, 60, 51, 59, 119, 101, 97, 114, 32] (by decide) rfl) (by omega) (by simp only [List.length_append, List.length_cons, List.length_nil]; omega) (by decide) (by omega)
  obtain ⟨N12, S12, K12, w12, i12, j12, -⟩ := sbo_int 160 j11 (hD 5 (by decide)) (by simp only [List.length_append, List.length_cons, List.length_nil]; omega) (by decide) (by omega)
  have v12 := sbo_v j12 (by omega)
  obtain ⟨N13, S13, K13, w13, i13, j13, -⟩ := sbo_str 160 j12 (str_c (M := N12) (R := S12) (L := K12) 21 [59, 110, 111, 116, 105, 99, 101, 32, 117, 115, 101, 100, 42] (by decide) rfl) (by omega) (by simp only [List.length_append, List.length_cons, List.length_nil]; omega) (by decide) (by omega)
  obtain ⟨N14, S14, K14, w14, i14, j14, -⟩ := sbo_int 160 j13 (hD 6 (by decide)) (by simp only [List.length_append, List.length_cons, List.length_nil]; omega) (by decide) (by omega)
  have v14 := sbo_v j14 (by omega)
  obtain ⟨N15, S15, K15, w15, i15, j15, -⟩ := sbo_str 160 j14 (str_c (M := N14) (R := S14) (L := K14) 22 [43, 121, 101, 97, 114, 42, 53, 48, 45, 121, 101, 97, 114, 47, 51, 42, 49, 53, 48, 59] (by decide) rfl) (by omega) (by simp only [List.length_append, List.length_cons, List.length_nil]; omega) (by decide) (by omega)
  have hT : ([] : List Nat) ++ [119, 101, 105, 103, 104, 116, 32, 110, 101, 101, 100, 47, 52, 43] ++ digN (D 2) ++ [32, 119, 104, 101, 110, 32, 97, 103, 101, 62] ++ digN (D 0) ++ [32, 97, 110, 100, 32, 110, 111, 116, 32, 40, 104, 97, 100, 62] ++ digN (D 1) ++ [32, 111, 114, 32, 119, 111, 114, 110, 62, 57, 41, 59, 119, 101, 105, 103, 104, 116, 32, 115, 105, 110, 99, 101, 45, 104, 97, 100, 42] ++ digN (D 3) ++ [59, 119, 101, 97, 114, 32, 117, 115, 101, 100, 47, 51, 43, 116, 105, 101, 115, 32, 119, 104, 101, 110, 32, 117, 115, 101, 100, 62] ++ digN (D 4) ++ [32, 111, 114, 32, 110, 101, 101, 100, 60, 51, 59, 119, 101, 97, 114, 32] ++ digN (D 5) ++ [59, 110, 111, 116, 105, 99, 101, 32, 117, 115, 101, 100, 42] ++ digN (D 6) ++ [43, 121, 101, 97, 114, 42, 53, 48, 45, 121, 101, 97, 114, 47, 51, 42, 49, 53, 48, 59] = lawTx D := by unfold lawTx; simp only [List.append_assoc, List.nil_append]
  rw [hT] at j15
  obtain ⟨Ne, Se, Ke, ie, se, le, fe, -, X, x1, x2, x3⟩ := sbo_fin j15 one1 (by omega) (by omega)
  refine ⟨K15.length, Ne, Se, Ke, ?_, se, le, fe, X, x1, by omega, by omega⟩
  rw [if_pos (gfr_of (by omega))]
  simp only [gnew]
  rw [if_pos (show gin L.length = true from Nat.blt_eq.mpr (by omega)), i0]
  simp only [Option.bind_some]
  rw [if_pos (sbo_gob j0 (by omega)), i1]
  simp only [Option.bind_some]
  rw [if_pos (show gar K1 q 0 2 = true from (tr j1 (by omega)).1 2 (by decide)), if_pos (sbo_gob j1 (by omega)), show N1 q (zi 2) = znn (D 2) from (tr j1 (by omega)).2 2 (by decide), i2]
  simp only [Option.bind_some]
  rw [if_pos (sbo_gob j2 (by omega)), i3]
  simp only [Option.bind_some]
  rw [if_pos (show gar K3 q 0 0 = true from (tr j3 (by omega)).1 0 (by decide)), if_pos (sbo_gob j3 (by omega)), show N3 q (zi 0) = znn (D 0) from (tr j3 (by omega)).2 0 (by decide), i4]
  simp only [Option.bind_some]
  rw [if_pos (sbo_gob j4 (by omega)), i5]
  simp only [Option.bind_some]
  rw [if_pos (show gar K5 q 0 1 = true from (tr j5 (by omega)).1 1 (by decide)), if_pos (sbo_gob j5 (by omega)), show N5 q (zi 1) = znn (D 1) from (tr j5 (by omega)).2 1 (by decide), i6]
  simp only [Option.bind_some]
  rw [if_pos (sbo_gob j6 (by omega)), i7]
  simp only [Option.bind_some]
  rw [if_pos (show gar K7 q 0 3 = true from (tr j7 (by omega)).1 3 (by decide)), if_pos (sbo_gob j7 (by omega)), show N7 q (zi 3) = znn (D 3) from (tr j7 (by omega)).2 3 (by decide), i8]
  simp only [Option.bind_some]
  rw [if_pos (sbo_gob j8 (by omega)), i9]
  simp only [Option.bind_some]
  rw [if_pos (show gar K9 q 0 4 = true from (tr j9 (by omega)).1 4 (by decide)), if_pos (sbo_gob j9 (by omega)), show N9 q (zi 4) = znn (D 4) from (tr j9 (by omega)).2 4 (by decide), i10]
  simp only [Option.bind_some]
  rw [if_pos (sbo_gob j10 (by omega)), i11]
  simp only [Option.bind_some]
  rw [if_pos (show gar K11 q 0 5 = true from (tr j11 (by omega)).1 5 (by decide)), if_pos (sbo_gob j11 (by omega)), show N11 q (zi 5) = znn (D 5) from (tr j11 (by omega)).2 5 (by decide), i12]
  simp only [Option.bind_some]
  rw [if_pos (sbo_gob j12 (by omega)), i13]
  simp only [Option.bind_some]
  rw [if_pos (show gar K13 q 0 6 = true from (tr j13 (by omega)).1 6 (by decide)), if_pos (sbo_gob j13 (by omega)), show N13 q (zi 6) = znn (D 6) from (tr j13 (by omega)).2 6 (by decide), i14]
  simp only [Option.bind_some]
  rw [if_pos (sbo_gob j14 (by omega)), i15]
  simp only [Option.bind_some]
  rw [if_pos (sbo_gob j15 (by omega)), ie]
  rfl
