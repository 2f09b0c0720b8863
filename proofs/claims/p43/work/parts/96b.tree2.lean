-- ===== draws between two numbers; a rule in the heap =====
theorem and_20 (x : Int32) : ∃ k, k < 1048576 ∧ x &&& 1048575 = znn k ∧ zi (x &&& 1048575) = k := by
  have h : (x &&& 1048575).toBitVec = BitVec.ofNat 32 (x.toBitVec.toNat % 1048576) := by
    apply BitVec.eq_of_toNat_eq
    rw [Int32.toBitVec_and, BitVec.toNat_and]
    have e : (1048575 : Int32).toBitVec.toNat = 2 ^ 20 - 1 := by decide
    rw [e, Nat.and_two_pow_sub_one_eq_mod]
    simp
    omega
  have h2 : x &&& 1048575 = znn (x.toBitVec.toNat % 1048576) := Int32.toBitVec_inj.1 h
  exact ⟨_, Nat.mod_lt _ (by decide), h2, by rw [h2, zn_zi (by omega)]⟩
theorem zn_divI {a b : Nat} (ha : a < 2147483648) (hb0 : 0 < b) (hb : b < 2147483648) : znn a / znn b = znn (a / b) := by
  apply Int32.toInt_inj.1
  have h1 : a / b ≤ a := Nat.div_le_self _ _
  have hb1 : znn b ≠ -1 := fun e => by
    have h2 := congrArg Int32.toInt e
    rw [show (znn b).toInt = b from Int32.toInt_ofNat_of_lt hb] at h2
    have : ((-1 : Int32)).toInt = -1 := by decide
    omega
  rw [Int32.toInt_div_of_ne_right _ _ hb1, show (znn a).toInt = a from Int32.toInt_ofNat_of_lt ha, show (znn b).toInt = b from Int32.toInt_ofNat_of_lt hb, show (znn (a / b)).toInt = (a / b : Nat) from Int32.toInt_ofNat_of_lt (by omega)]
  rfl
theorem zrem_n {a b : Nat} (ha : a < 2147483648) (hb0 : 0 < b) (hb : b < 2147483648) : zrem (znn a) (znn b) = znn (a % b) := by
  unfold zrem
  have h1 : a / b * b ≤ a := Nat.div_mul_le_self a b
  rw [zn_divI ha hb0 hb, zn_mul, zn_sub h1, Nat.mul_comm]
  congr 1
  have := Nat.div_add_mod a b
  omega
theorem btw {lo hi : Nat} (x : Int32) (h : lo ≤ hi) (hh : hi < 1000000) : g115_between x (znn lo) (znn hi) = some (znn (lo + bw x (hi - lo + 1))) := by
  obtain ⟨k, hk, e1, e2⟩ := and_20 x
  unfold g115_between bw
  rw [e2, e1, zn_sub h, zadd1, if_neg (by rw [zl0, zn_eq (by omega) (by decide)]; omega), zrem_n (by omega) (by omega) (by omega), zn_add]
theorem bw_lt (x : Int32) {m : Nat} (h : 0 < m) : bw x m < m := Nat.mod_lt _ h
def rIs (lo n : Nat) : Nat → Int32 × Nat → ZI → ZF → ZY → Nat → Prop
  | 0, y, M, _, L, r => L[r]? = some (16, 4) ∧ lo ≤ r ∧ M r 0 = znn (nK y) ∧ M r 1 = znn (nO n y)
  | f + 1, y, M, R, L, r => L[r]? = some (16, 4) ∧ lo ≤ r ∧ M r 0 = znn (nK y) ∧ (nK y < 2 → M r 1 = znn (nO n y)) ∧ (2 ≤ nK y → ∃ a b, R r 2 = some a ∧ R r 3 = some b ∧ rIs lo n f (nL y) M R L a ∧ rIs lo n f (nR y) M R L b)
theorem rIs_obj {lo n f : Nat} {y : Int32 × Nat} {M : ZI} {R : ZF} {L : ZY} {r : Nat} (h : rIs lo n f y M R L r) : L[r]? = some (16, 4) ∧ lo ≤ r ∧ M r 0 = znn (nK y) := by
  cases f with
  | zero => exact ⟨h.1, h.2.1, h.2.2.1⟩
  | succ f => exact ⟨h.1, h.2.1, h.2.2.1⟩
theorem rIs_fr {lo lo' n : Nat} {M M' : ZI} {R R' : ZF} {L L' : ZY} (hlo : lo' ≤ lo) (hX : ∃ X, L' = L ++ X) (hc : ∀ c m, L[c]? = some (16, m) → lo ≤ c → M' c = M c ∧ R' c = R c) : ∀ f (y : Int32 × Nat) r, rIs lo n f y M R L r → rIs lo' n f y M' R' L' r := by
  obtain ⟨X, rfl⟩ := hX
  intro f
  induction f with
  | zero =>
    intro y r ⟨h1, h2, h3, h4⟩
    obtain ⟨e1, e2⟩ := hc r 4 h1 h2
    exact ⟨lay_app h1, Nat.le_trans hlo h2, by rw [e1]; exact h3, by rw [e1]; exact h4⟩
  | succ f ih =>
    intro y r ⟨h1, h2, h3, h4, h5⟩
    obtain ⟨e1, e2⟩ := hc r 4 h1 h2
    refine ⟨lay_app h1, Nat.le_trans hlo h2, by rw [e1]; exact h3, fun hk => by rw [e1]; exact h4 hk, fun hk => ?_⟩
    obtain ⟨a, b, g1, g2, g3, g4⟩ := h5 hk
    exact ⟨a, b, by rw [e2]; exact g1, by rw [e2]; exact g2, ih _ _ g3, ih _ _ g4⟩
theorem rIs_F {lo n f : Nat} {y : Int32 × Nat} {M M' : ZI} {R R' : ZF} {L L' : ZY} {r : Nat} (h : rIs lo n f y M R L r) (hf : hFr (fun _ => False) M R L M' R' L') : rIs lo n f y M' R' L' r :=
  rIs_fr (Nat.le_refl _) hf.1 (fun c m hc _ => hf.2 c (lay_le hc) (fun hh => hh)) f y r h
theorem nV_eq (y : Int32 × Nat) : y.1 * (znn y.2 + 3) + 227 * znn y.2 = nV y := rfl
theorem init_rule {M : ZI} {R : ZF} {L : ZY} {r : Nat} {k v : Int32} {a b : Option Nat} (hr : L[r]? = some (16, 4)) (hL : L.length ≤ 800000) (ha : gio a = true) (hb : gio b = true) : g148_init r k v a b M R L = some (zs (zs M r 0 k) r 1 v, zr (zr R r 2 a) r 3 b, L) := by
  have := lay_le hr
  unfold g148_init
  rw [if_pos (show gin r = true from Nat.blt_eq.mpr (by omega)), if_pos (gob_of hr (by omega))]
  simp only [zlet]
  rw [if_pos ha, if_pos hb]
theorem zmin_z {a b : Nat} (ha : a < 2147483648) (hb : b < 2147483648) : zmin (znn a) (znn b) = znn (min a b) := by
  unfold zmin
  by_cases h : b < a
  · rw [if_pos ((zn_lt hb ha).mpr h), Nat.min_eq_right (by omega)]
  · rw [if_neg (by rw [zn_lt hb ha]; exact h), Nat.min_eq_left (by omega)]
theorem rule_leaf {n F : Nat} {y : Int32 × Nat} {M : ZI} {R : ZF} {L : ZY} (h0 : 0 < n) (hn : n ≤ 10) (hy : y.2 ≤ 3) (hk : nK y < 2) (hL : L.length + 100 ≤ 700000) (hL2 : 148 ≤ L.length) : ∃ M' R', g147_rule (F + 1) y.1 (znn n) (znn y.2) M R L = some (L.length, M', R', L ++ [(16, 4)]) ∧ M' L.length 0 = znn (nK y) ∧ M' L.length 1 = znn (nO n y) ∧ hFr (fun _ => False) M R L M' R' (L ++ [(16, 4)]) := by
  have hm : znn n - 1 = znn (n - 1) := by rw [zl1, zn_sub (by omega)]
  have ek : (if (2 : Int32) < znn y.2 then (g115_between (zshr (nV y) 4) 0 1).bind fun v3 => some v3 else (g115_between (zshr (nV y) 4) 0 3).bind fun v2 => some v2) = some (znn (nK y)) := by
    unfold nK
    rw [show (g115_between (zshr (nV y) 4) 0 1) = _ from btw (lo := 0) (hi := 1) _ (by decide) (by decide), show (g115_between (zshr (nV y) 4) 0 3) = _ from btw (lo := 0) (hi := 3) _ (by decide) (by decide)]
    by_cases h : 2 < y.2
    · rw [if_pos (show (2 : Int32) < znn y.2 by rw [zl2, zn_lt (by decide) (by omega)]; exact h), if_pos h, Nat.zero_add]
      rfl
    · rw [if_neg (show ¬ (2 : Int32) < znn y.2 by rw [zl2, zn_lt (by decide) (by omega)]; exact h), if_neg h, Nat.zero_add]
      rfl
  have hnew : (L ++ [(16, 4)])[L.length]? = some (16, 4) := lay_new
  have gi : gin L.length = true := Nat.blt_eq.mpr (by omega)
  have hin := fun (k v : Int32) => init_rule (M := zw M L.length fun _ => 0) (R := zw R L.length fun _ => none) (k := k) (v := v) (a := none) (b := none) hnew (by simp; omega) rfl rfl
  have hfr : ∀ (k v : Int32), hFr (fun _ => False) M R L (zs (zs (zw M L.length fun _ => 0) L.length 0 k) L.length 1 v) (zr (zr (zw R L.length fun _ => none) L.length 2 none) L.length 3 none) (L ++ [(16, 4)]) := fun k v => ⟨⟨_, rfl⟩, fun c hc _ => by
    have hne : c ≠ L.length := by omega
    simp only [zs_ap, zr_ap, zwF_ap, if_neg hne, and_self]⟩
  simp only [g147_rule, g147_rule_b, zlet]
  rw [nV_eq, ek]
  simp only [Option.bind_some]
  have gf : gfr L = true := gfr_of (by omega)
  by_cases h1 : nK y = 0
  · rw [h1, if_pos (show znn 0 = 0 from rfl), if_pos gf]
    simp only [gnew]
    rw [hm, show g115_between (nV y) 0 (znn (n - 1)) = _ from btw (lo := 0) (hi := n - 1) _ (by omega) (by omega)]
    simp only [Option.bind_some]
    rw [if_pos gi, hin]
    refine ⟨_, _, rfl, ?_, ?_, hfr _ _⟩
    · simp only [zs_ap, upd_ap, if_true]; rfl
    · simp only [zs_ap, upd_ap, if_true]
      unfold nO
      rw [if_pos h1, Nat.zero_add, show n - 1 - 0 + 1 = n by omega]
  · have h2 : nK y = 1 := by omega
    rw [h2, if_neg (show ¬ znn 1 = 0 by decide), if_pos (show znn 1 = 1 from rfl), if_pos gf]
    simp only [gnew]
    have hmin : zmin 10 (znn n + 1) = znn (min 10 (n + 1)) := by rw [zl10, zadd1, zmin_z (by decide) (by omega)]
    rw [hmin, show g115_between (zshr (nV y) 2) 1 (znn (min 10 (n + 1))) = _ from btw (lo := 1) (hi := min 10 (n + 1)) _ (by omega) (by omega)]
    simp only [Option.bind_some]
    rw [if_pos gi, hin]
    refine ⟨_, _, rfl, ?_, ?_, hfr _ _⟩
    · simp only [zs_ap, upd_ap, if_true]; rfl
    · simp only [zs_ap, upd_ap, if_true]
      unfold nO
      rw [if_neg h1, show min 10 (n + 1) - 1 + 1 = min 10 (n + 1) by omega]
theorem rule_new {n : Nat} (h0 : 0 < n) (hn : n ≤ 10) : ∀ f (y : Int32 × Nat) F (M : ZI) (R : ZF) (L : ZY), y.2 + f = 3 → f < F → L.length + 2 ^ (f + 1) ≤ 600000 → 148 ≤ L.length → ∃ r M' R' L', g147_rule F y.1 (znn n) (znn y.2) M R L = some (r, M', R', L') ∧ rIs L.length n f y M' R' L' r ∧ hFr (fun _ => False) M R L M' R' L' ∧ ∃ X, L' = L ++ X ∧ X.length < 2 ^ (f + 1) ∧ (X.map Prod.snd).sum ≤ 4 * X.length := by
  intro f
  induction f with
  | zero =>
    intro y F M R L hy hF hL hL2
    obtain ⟨F, rfl⟩ : ∃ k, F = k + 1 := ⟨F - 1, by omega⟩
    obtain ⟨M', R', e1, e2, e3, e4⟩ := rule_leaf (F := F) (M := M) (R := R) h0 hn (by omega) ((nK_lt y).2 (by omega)) (by omega) hL2
    exact ⟨L.length, M', R', _, e1, ⟨lay_new, Nat.le_refl _, e2, e3⟩, e4, ⟨_, rfl, by simp, by simp⟩⟩
  | succ f ih =>
    intro y F M R L hy hF hL hL2
    obtain ⟨F, rfl⟩ : ∃ k, F = k + 1 := ⟨F - 1, by omega⟩
    have hp : 2 ^ (f + 1 + 1) = 2 * 2 ^ (f + 1) := by rw [Nat.pow_succ]; omega
    have hp2 : 2 ≤ 2 ^ (f + 1) := by rw [Nat.pow_succ]; have := Nat.two_pow_pos f; omega
    by_cases hk : nK y < 2
    · obtain ⟨M', R', e1, e2, e3, e4⟩ := rule_leaf (F := F) (M := M) (R := R) h0 hn (by omega) hk (by omega) hL2
      exact ⟨L.length, M', R', _, e1, ⟨lay_new, Nat.le_refl _, e2, fun _ => e3, fun h => by omega⟩, e4, ⟨_, rfl, by simp only [List.length_cons, List.length_nil]; omega, by simp⟩⟩
    · have hnew : (L ++ [(16, 4)])[L.length]? = some (16, 4) := lay_new
      have gi : gin L.length = true := Nat.blt_eq.mpr (by omega)
      have gf : gfr L = true := gfr_of (by omega)
      have hk4 := (nK_lt y).1
      have ek : (if (2 : Int32) < znn y.2 then (g115_between (zshr (nV y) 4) 0 1).bind fun v3 => some v3 else (g115_between (zshr (nV y) 4) 0 3).bind fun v2 => some v2) = some (znn (nK y)) := by
        rw [show (g115_between (zshr (nV y) 4) 0 3) = _ from btw (lo := 0) (hi := 3) _ (by decide) (by decide), if_neg (show ¬ (2 : Int32) < znn y.2 by rw [zl2, zn_lt (by decide) (by omega)]; omega), Nat.zero_add]
        unfold nK
        rw [if_neg (by omega)]
        rfl
      obtain ⟨a, M1, R1, L1, a1, a2, a3, X, a4, a5, a6⟩ := ih (nL y) F (zw M L.length fun _ => 0) (zw R L.length fun _ => none) (L ++ [(16, 4)]) (by show y.2 + 1 + f = 3; omega) (by omega) (by simp; omega) (by simp; omega)
      obtain ⟨b, M2, R2, L2, b1, b2, b3, Y, b4, b5, b6⟩ := ih (nR y) F M1 R1 L1 (by show y.2 + 1 + f = 3; omega) (by omega) (by rw [a4]; simp; omega) (by rw [a4]; simp; omega)
      have hnew2 : L2[L.length]? = some (16, 4) := hFr_lay b3 (hFr_lay a3 hnew)
      have hl2 : L2.length ≤ 600000 := by rw [b4, a4]; simp; omega
      have la := lay_le (rIs_obj a2).1
      have lb := lay_le (rIs_obj b2).1
      have l12 : L1.length ≤ L2.length := by rw [b4]; simp
      have hin := init_rule (M := M2) (R := R2) (k := znn (nK y)) (v := 0) (a := some a) (b := some b) hnew2 (by omega) (Nat.blt_eq.mpr (by omega)) (Nat.blt_eq.mpr (by omega))
      refine ⟨L.length, zs (zs M2 L.length 0 (znn (nK y))) L.length 1 0, zr (zr R2 L.length 2 (some a)) L.length 3 (some b), L2, ?_, ⟨hnew2, Nat.le_refl _, ?_, fun h => by omega, fun _ => ⟨a, b, ?_, ?_, ?_, ?_⟩⟩, ⟨⟨[(16, 4)] ++ X ++ Y, by rw [b4, a4]; simp⟩, fun c hc _ => ?_⟩, ⟨[(16, 4)] ++ X ++ Y, by rw [b4, a4]; simp, by simp; omega, by simp; omega⟩⟩
      · simp only [g147_rule, g147_rule_b, zlet]
        rw [nV_eq, ek]
        simp only [Option.bind_some]
        rw [if_neg (show ¬ znn (nK y) = 0 by rw [zl0, zn_eq (by omega) (by decide)]; omega), if_neg (show ¬ znn (nK y) = 1 by rw [zl1, zn_eq (by omega) (by decide)]; omega), if_pos gf]
        simp only [gnew]
        rw [zadd1]
        rw [show g147_rule F (zshr (nV y) 1) (znn n) (znn (y.2 + 1)) (zw M L.length fun _ => 0) (zw R L.length fun _ => none) (L ++ [(16, 4)]) = _ from a1]
        simp only [Option.bind_some]
        rw [show g147_rule F (zshr (nV y) 3) (znn n) (znn (y.2 + 1)) M1 R1 L1 = _ from b1]
        simp only [Option.bind_some]
        rw [if_pos gi, hin]
        rfl
      · simp only [zs_ap, upd_ap, if_true]
        rfl
      · simp only [zr_ap, zwF_ap, if_true]
        rfl
      · simp only [zr_ap, zwF_ap, if_true]
      · refine rIs_fr (lo := L.length + 1) (L := L1) (M := M1) (R := R1) (by omega) ⟨Y, b4⟩ (fun c m hc hlo => ?_) f (nL y) a (by simpa using a2)
        have hne : c ≠ L.length := by omega
        obtain ⟨q1, q2⟩ := b3.2 c (lay_le hc) (fun hh => hh)
        simp only [zs_ap, zr_ap, zwF_ap, if_neg hne]
        exact ⟨q1, q2⟩
      · refine rIs_fr (lo := L1.length) (L := L2) (M := M2) (R := R2) (by rw [a4]; simp only [List.length_append]; omega) ⟨[], by simp⟩ (fun c m hc hlo => ?_) f (nR y) b b2
        have hne : c ≠ L.length := by rw [a4] at hlo; simp at hlo; omega
        simp only [zs_ap, zr_ap, zwF_ap, if_neg hne, and_self]
      · have hne : c ≠ L.length := by omega
        obtain ⟨q1, q2⟩ := b3.2 c (by rw [a4]; simp; omega) (fun hh => hh)
        obtain ⟨u1, u2⟩ := a3.2 c (by simp; omega) (fun hh => hh)
        simp only [zs_ap, zr_ap, zwF_ap, if_neg hne]
        rw [q1, q2, u1, u2]
        simp only [zwF_ap, if_neg hne, and_self]
