/-- what the class makes of a byte that is no letter, digit or blank -/
theorem sign_kind {x : Nat} (h : x < 256) : f67_signKind (znn x) = some (if signB x = true then znn x else -3) := by
  have : ∀ x : Fin 256, f67_signKind (znn x.val) = some (if signB x.val = true then znn x.val else -3) := by decide +kernel
  exact this ⟨x, h⟩
/-- one token of the class from s on -/
def lexKind (b : Nat → Nat) (t s : Nat) : Int32 := if s < t then (if isLet (b s) = true then kindOf b s (runEnd isLet b t (t - s) s) 24 0 else if isDig (b s) = true then (if 4 < runEnd isDig b t (t - s) s - s then -3 else -2) else if signB (b s) = true then znn (b s) else -3) else -1
theorem add_tok {M : ZI} {m : Nat} {a v s : Int32} (h5 : M 119 5 = znn m) (hm : m ≤ 400) : f64_addToken 119 a v s M = some (zs (zs (zs (zs M 121 m a) 122 m v) 123 m s) 119 5 (znn (m + 1))) := by
  have hz : zin (znn m) 401 = true := (zn_zin (by omega)).mpr (by omega)
  unfold f64_addToken
  rw [h5, if_neg (show ¬ (400 : Int32) < znn m by rw [zl400, zn_lt (by decide) (by omega)]; omega), if_pos hz, zn_zi (by omega), zlet_e, zs_df (show (119 : Nat) ≠ 119 + 2 by decide), h5, if_pos hz, zn_zi (by omega), zlet_e, zs_df (show (119 : Nat) ≠ 119 + 3 by decide), zs_df (show (119 : Nat) ≠ 119 + 2 by decide), h5, if_pos hz, zn_zi (by omega), zlet_e, zs_df (show (119 : Nat) ≠ 119 + 4 by decide), zs_df (show (119 : Nat) ≠ 119 + 3 by decide), zs_df (show (119 : Nat) ≠ 119 + 2 by decide), h5, zadd1]
  rfl
