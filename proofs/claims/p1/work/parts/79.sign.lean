/-- what the class makes of a byte that is no letter, digit or blank -/
theorem sign_kind {x : Nat} (h : x < 256) : f67_signKind (zn x) = some (if signB x = true then zn x else -3) := by
  have : ∀ x : Fin 256, f67_signKind (zn x.val) = some (if signB x.val = true then zn x.val else -3) := by decide +kernel
  exact this ⟨x, h⟩
/-- one token of the class from s on -/
def lexKind (b : Nat → Nat) (t s : Nat) : Int32 := if s < t then (if isLet (b s) = true then kindOf b s (runEnd isLet b t (t - s) s) 24 0 else if isDig (b s) = true then (if 4 < runEnd isDig b t (t - s) s - s then -3 else -2) else if signB (b s) = true then zn (b s) else -3) else -1
