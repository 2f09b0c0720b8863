-- ===== WALKING over the whole heap: rules for the law's methods and the JDK's =====
abbrev ZF : Type := Nat → Nat → Option Nat
abbrev ZY : Type := List (Nat × Nat)
def zG {α : Type} (sc : ZS) (d y pc : Nat) (ls : List Slot) (st : List Value) (h : ZH) (o : Option α) (E : α → Option Value → ZH → Prop) : Prop := ∀ a, o = some a → ∀ r h', E a r h' → ∃ n, zrun sc n d y pc ls st h = some (r, h')
def gEi (h : ZH) : Int32 → Option Value → ZH → Prop := fun v r h' => r = some (.int v) ∧ h' = h
def gEm : Int32 × ZH → Option Value → ZH → Prop := fun p r h' => r = some (.int p.1) ∧ h' = p.2
def gEv : ZH → Option Value → ZH → Prop := fun m r h' => r = none ∧ h' = m
def gEn (h : ZH) : Nat → Option Value → ZH → Prop := fun v r h' => r = some (.ref v) ∧ h' = h
def gEq : Nat × ZH → Option Value → ZH → Prop := fun p r h' => r = some (.ref p.1) ∧ h' = p.2
def gEo : Option Nat × ZH → Option Value → ZH → Prop := fun p r h' => r = some (va_rf p.1) ∧ h' = p.2
abbrev gEj {β σ : Type} (sc : ZS) (d y pj : Nat) (lj : β → σ → List Slot) (sj : β → List Value) (hj : β → ZH) : β → Option Value → ZH → Prop := fun b r h' => ∀ s : σ, ∃ n, zrun sc n d y pj (lj b s) (sj b) (hj b) = some (r, h')
/-- an object of a class, in the heap -/
def gob (L : ZY) (o c : Nat) : Bool := Nat.blt o 1000000 && (match L[o]? with
  | some q => Nat.beq q.1 (c + 3)
  | none => false)
/-- an array of a kind with a place i, in the heap -/
def gar (L : ZY) (o kd : Nat) (i : Int32) : Bool := Nat.blt o 1000000 && (match L[o]? with
  | some q => Nat.beq q.1 kd && zin i q.2
  | none => false)
def gak (L : ZY) (o kd : Nat) : Bool := Nat.blt o 1000000 && (match L[o]? with
  | some q => Nat.beq q.1 kd
  | none => false)
def gln (L : ZY) (o : Nat) : Nat := (L.getD o (0, 0)).2
/-- a text, in the heap or a constant -/
def gos (L : ZY) (o : Nat) : Bool := if o < 1000000 then gob L o 12 else decide (2000000 ≤ o ∧ o < 2000000 + zSR.length)
def gsI (M : ZI) (o k : Nat) : Int32 := if o < 1000000 then M o k else 0
def gsR (R : ZF) (o k : Nat) : Option Nat := if o < 1000000 then R o k else some (o + 1000000)
/-- bytes, in the heap or outside -/
def gab (L : ZY) (o : Nat) (i : Int32) : Bool := if o < 1000000 then gar L o 50 i else decide (3000000 ≤ o ∧ o < 3000000 + zBY.length) && zin i (zBY.getD (o - 3000000) []).length
def gbk (L : ZY) (o : Nat) : Bool := if o < 1000000 then gak L o 50 else decide (3000000 ≤ o ∧ o < 3000000 + zBY.length)
def gbI (M : ZI) (o k : Nat) : Int32 := if o < 1000000 then M o k else (zBY.getD (o - 3000000) []).getD k 0
def gbl (L : ZY) (o : Nat) : Nat := if o < 1000000 then gln L o else (zBY.getD (o - 3000000) []).length
def zr (R : ZF) (o k : Nat) (x : Option Nat) : ZF := zw R o (zw (R o) k x)
def gin (r : Nat) : Bool := Nat.blt r 1000000
def gio (x : Option Nat) : Bool := match x with
  | some r => Nat.blt r 1000000
  | none => true
def gek (L : ZY) (v k : Nat) : Bool := match L[v]? with
  | some q => Nat.beq q.1 k
  | none => false
def gfr (L : ZY) : Bool := Nat.blt L.length 999999
def gnn (n : Int32) : Bool := decide (¬ n < 0 ∧ n.toNatClampNeg ≤ 100000)
def zby (x : Int32) : Int32 := vp_nar .byte x
def gnew {α : Type} (M : ZI) (R : ZF) (L : ZY) (kd n : Nat) (f : Nat → ZI → ZF → ZY → Option α) : Option α := f L.length (zw M L.length fun _ => 0) (zw R L.length fun _ => none) (L ++ [(kd, n)])
def gcln {α : Type} (M : ZI) (R : ZF) (L : ZY) (kd o : Nat) (f : Nat → ZI → ZF → ZY → Option α) : Option α := f L.length (zw M L.length (M o)) (zw R L.length fun _ => none) (L ++ [(kd, gln L o)])
def gfit (M : ZI) (o s n : Nat) : Bool := (List.range n).all fun i => zft (M o (s + i))
/-- may so many bytes be copied -/
def gcp (M : ZI) (L : ZY) (b : Nat) (sp : Int32) (a : Nat) (dp n : Int32) : Bool := decide (¬ sp < 0 ∧ ¬ dp < 0 ∧ ¬ n < 0) && gak L a 50 && Nat.ble (zi dp + zi n) (gln L a) && (if b < 1000000 then gak L b 50 && Nat.ble (zi sp + zi n) (gln L b) && gfit M b (zi sp) (zi n) else decide (3000000 ≤ b ∧ b < 3000000 + zSR.length) && Nat.ble (zi sp + zi n) (zBY.getD (b - 3000000) []).length)
def gsrc (M : ZI) (b : Nat) : Nat → Int32 := if b < 1000000 then M b else fun i => (zBY.getD (b - 3000000) []).getD i 0
def gcy (M : ZI) (a b : Nat) (sp dp n : Int32) : ZI := zw M a (va_cpy (gsrc M b) (M a) (zi sp) (zi dp) (zi n))
/-- the class's object stands as its constructor laid it -/
def zgood (R : ZF) (L : ZY) : Bool := decide (L.take 148 = zHc) && zRL.all fun z => decide (R z.1 z.2.1 = some z.2.2)
def zopt {α : Type} (x : Option Nat) (a : Option α) (f : Nat → Option α) : Option α := match x with
  | some r => f r
  | none => a
theorem gob_sp {L : ZY} {o c : Nat} (h : gob L o c = true) : o < 1000000 ∧ ∃ n, L[o]? = some (c + 3, n) := by
  simp only [gob, Bool.and_eq_true, Nat.blt_eq] at h
  refine ⟨h.1, ?_⟩
  cases hq : L[o]? with
  | none => rw [hq] at h; simp at h
  | some q =>
    rw [hq] at h
    have := Nat.beq_eq.mp h.2
    exact ⟨q.2, by rw [← this]⟩
theorem gak_sp {L : ZY} {o kd : Nat} (h : gak L o kd = true) : o < 1000000 ∧ L[o]? = some (kd, gln L o) := by
  simp only [gak, Bool.and_eq_true, Nat.blt_eq] at h
  refine ⟨h.1, ?_⟩
  cases hq : L[o]? with
  | none => rw [hq] at h; simp at h
  | some q =>
    rw [hq] at h
    have := Nat.beq_eq.mp h.2
    simp [gln, List.getD_eq_getElem?_getD, hq, ← this]
theorem gar_sp {L : ZY} {o kd : Nat} {i : Int32} (h : gar L o kd i = true) : o < 1000000 ∧ L[o]? = some (kd, gln L o) ∧ ¬ (i < 0 ∨ gln L o ≤ i.toNatClampNeg) := by
  simp only [gar, Bool.and_eq_true, Nat.blt_eq] at h
  refine ⟨h.1, ?_⟩
  cases hq : L[o]? with
  | none => rw [hq] at h; simp at h
  | some q =>
    rw [hq] at h
    simp only [Bool.and_eq_true] at h
    have h1 := Nat.beq_eq.mp h.2.1
    have h2 := of_decide_eq_true h.2.2
    have e : gln L o = q.2 := by simp [gln, List.getD_eq_getElem?_getD, hq]
    rw [e, ← h1]
    exact ⟨rfl, h2⟩
theorem zG_step {α : Type} {sc : ZS} {d y pc : Nat} {ls : List Slot} {st : List Value} {h : ZH} {o : Option α} {E : α → Option Value → ZH → Prop} {ins : Instr} {len p : Nat} {ls' : List Slot} {st' : List Value} {h1 : ZH} (hd : zdec y pc = some (ins, len)) (hs : zstep sc y pc ins len ls st h = zn p ls' st' h1) (k : zG sc d y p ls' st' h1 o E) : zG sc d y pc ls st h o E := by
  intro a ha r h' he
  obtain ⟨n, hn⟩ := k a ha r h' he
  refine ⟨n + 1, ?_⟩
  unfold zrun
  rw [hd]
  simp only
  rw [hs]
  exact hn
theorem zG_callE {sc : ZS} {d y pc k : Nat} {ls : List Slot} {st : List Value} {h h1 : ZH} {ins : Instr} {len : Nat} {as rest : List Value} {r1 : Option Value} {r : Option Value} {h' : ZH} (hd : zdec y pc = some (ins, len)) (hs : zstep sc y pc ins len ls st h = some (.inr (.inr (k, as, rest)))) (hal : as.length ≤ zml k) (hc : ∃ n, zrun sc n d k 0 (zent (zml k) as) [] h = some (r1, h1)) (g : ∃ n, zrun sc n (d + 1) y (pc + 3) ls (r1.toList ++ rest) h1 = some (r, h')) : ∃ n, zrun sc n (d + 1) y pc ls st h = some (r, h') := by
  obtain ⟨n1, h1⟩ := hc
  obtain ⟨n2, h2⟩ := g
  refine ⟨max n1 n2 + 1, ?_⟩
  unfold zrun
  rw [hd]
  simp only
  rw [hs]
  simp only
  rw [if_pos hal, zrun_le sc n1 (max n1 n2) _ _ _ _ _ _ _ (Nat.le_max_left _ _) h1]
  simp only
  exact zrun_le sc n2 (max n1 n2) _ _ _ _ _ _ _ (Nat.le_max_right _ _) h2
theorem zG_leaf {α : Type} {sc : ZS} {d y pc : Nat} {ls : List Slot} {st : List Value} {h : ZH} {E : α → Option Value → ZH → Prop} {a : α} (k : ∀ r h', E a r h' → ∃ n, zrun sc n d y pc ls st h = some (r, h')) : zG sc d y pc ls st h (some a) E := by
  intro b hb r h' he
  cases hb
  exact k r h' he
theorem zG_bind {α β σ : Type} {sc : ZS} {d y pc pj : Nat} {ls : List Slot} {st : List Value} {h : ZH} {E : α → Option Value → ZH → Prop} {o1 : Option β} {f : β → Option α} {lj : β → σ → List Slot} {sj : β → List Value} {hj : β → ZH} (h1 : zG sc d y pc ls st h o1 (gEj sc d y pj lj sj hj)) (h2 : ∀ b s, zG sc d y pj (lj b s) (sj b) (hj b) (f b) E) : zG sc d y pc ls st h (o1.bind f) E := by
  intro a ha r h' he
  cases o1 with
  | none => cases ha
  | some b => exact h1 b rfl r h' (fun s => h2 b s a ha r h' he)
theorem zG_none {α : Type} {sc : ZS} {d y pc : Nat} {ls : List Slot} {st : List Value} {h : ZH} {E : α → Option Value → ZH → Prop} : zG sc d y pc ls st h (none : Option α) E := fun _ h => nomatch h
theorem zG_ite {α : Type} {sc : ZS} {d y pc : Nat} {ls : List Slot} {st : List Value} {h : ZH} {E : α → Option Value → ZH → Prop} {c : Prop} [Decidable c] {o1 o2 : Option α} (h1 : c → zG sc d y pc ls st h o1 E) (h2 : ¬ c → zG sc d y pc ls st h o2 E) : zG sc d y pc ls st h (if c then o1 else o2) E := by
  split
  · exact h1 ‹_›
  · exact h2 ‹_›
theorem zG_grd {α : Type} {sc : ZS} {d y pc : Nat} {ls : List Slot} {st : List Value} {h : ZH} {E : α → Option Value → ZH → Prop} {c : Prop} [Decidable c] {o1 : Option α} (h1 : c → zG sc d y pc ls st h o1 E) : zG sc d y pc ls st h (if c then o1 else none) E := zG_ite h1 (fun _ => zG_none)
theorem zG_opt {α : Type} {sc : ZS} {d y pc : Nat} {ls : List Slot} {st : List Value} {h : ZH} {E : α → Option Value → ZH → Prop} {x : Option Nat} {a : Option α} {f : Nat → Option α} (h1 : x = none → zG sc d y pc ls st h a E) (h2 : ∀ r, x = some r → zG sc d y pc ls st h (f r) E) : zG sc d y pc ls st h (zopt x a f) E := by
  cases x with
  | none => exact h1 rfl
  | some r => exact h2 r rfl
theorem zG_dr {α : Type} {sc : ZS} {d y pc : Nat} {ls : List Slot} {st : List Value} {h : ZH} {E : α → Option Value → ZH → Prop} {x : Option Nat} {f : Nat → Option α} (h2 : ∀ r, x = some r → zG sc d y pc ls st h (f r) E) : zG sc d y pc ls st h (x.bind f) E := by
  cases x with
  | none => exact zG_none
  | some r => exact h2 r rfl
theorem zG_jn {α γ : Type} {sc : ZS} {d y pc : Nat} {ls : List Slot} {st : List Value} {h : ZH} {E : α → Option Value → ZH → Prop} {g : γ} {f : γ → Option α} (P : γ → Prop) (hg : P g) (k : ∀ g, P g → zG sc d y pc ls st h (f g) E) : zG sc d y pc ls st h (zlet g f) E := k g hg
theorem va_cat (x : Option Nat) : (va_rf x).category = 1 := by cases x <;> rfl

theorem zG_il0 {α : Type} {sc : ZS} {d y pc p : Nat} {M : ZI} {R : ZF} {L : ZY} {E : α → Option Value → ZH → Prop} {o : Option α} {tl : List Slot} {st : List Value} {x : Int32} (hd : zdec y pc = some (.iload 0, 2)) (hp : pc + 2 = p) (k : zG sc d y p (.val (.int x) :: tl) (.int x :: st) (M, R, L) o E) : zG sc d y pc (.val (.int x) :: tl) st (M, R, L) o E := by
  subst hp; exact zG_step hd (by first | rfl | simp [zstep, zld]) k
theorem zG_iln0 {α : Type} {sc : ZS} {d y pc p : Nat} {M : ZI} {R : ZF} {L : ZY} {E : α → Option Value → ZH → Prop} {o : Option α} {tl : List Slot} {st : List Value} {x : Int32} (hd : zdec y pc = some (.iload_n 0, 1)) (hp : pc + 1 = p) (k : zG sc d y p (.val (.int x) :: tl) (.int x :: st) (M, R, L) o E) : zG sc d y pc (.val (.int x) :: tl) st (M, R, L) o E := by
  subst hp; exact zG_step hd (by first | rfl | simp [zstep, zld]) k
theorem zG_al0 {α : Type} {sc : ZS} {d y pc p : Nat} {M : ZI} {R : ZF} {L : ZY} {E : α → Option Value → ZH → Prop} {o : Option α} {tl : List Slot} {st : List Value} {x : Nat} (hd : zdec y pc = some (.aload 0, 2)) (hp : pc + 2 = p) (k : zG sc d y p (.val (.ref x) :: tl) (.ref x :: st) (M, R, L) o E) : zG sc d y pc (.val (.ref x) :: tl) st (M, R, L) o E := by
  subst hp; exact zG_step hd (by first | rfl | simp [zstep, zld]) k
theorem zG_an0 {α : Type} {sc : ZS} {d y pc p : Nat} {M : ZI} {R : ZF} {L : ZY} {E : α → Option Value → ZH → Prop} {o : Option α} {tl : List Slot} {st : List Value} (hd : zdec y pc = some (.aload 0, 2)) (hp : pc + 2 = p) (k : zG sc d y p (.val .null :: tl) (.null :: st) (M, R, L) o E) : zG sc d y pc (.val .null :: tl) st (M, R, L) o E := by
  subst hp; exact zG_step hd (by first | rfl | simp [zstep, zld]) k
theorem zG_ao0 {α : Type} {sc : ZS} {d y pc p : Nat} {M : ZI} {R : ZF} {L : ZY} {E : α → Option Value → ZH → Prop} {o : Option α} {tl : List Slot} {st : List Value} {x : Option Nat} (hd : zdec y pc = some (.aload 0, 2)) (hp : pc + 2 = p) (k : zG sc d y p (.val (va_rf x) :: tl) (va_rf x :: st) (M, R, L) o E) : zG sc d y pc (.val (va_rf x) :: tl) st (M, R, L) o E := by
  cases x with
  | none => exact zG_an0 hd hp k
  | some r => exact zG_al0 hd hp k
theorem zG_aln0 {α : Type} {sc : ZS} {d y pc p : Nat} {M : ZI} {R : ZF} {L : ZY} {E : α → Option Value → ZH → Prop} {o : Option α} {tl : List Slot} {st : List Value} {x : Nat} (hd : zdec y pc = some (.aload_n 0, 1)) (hp : pc + 1 = p) (k : zG sc d y p (.val (.ref x) :: tl) (.ref x :: st) (M, R, L) o E) : zG sc d y pc (.val (.ref x) :: tl) st (M, R, L) o E := by
  subst hp; exact zG_step hd (by first | rfl | simp [zstep, zld]) k
theorem zG_ann0 {α : Type} {sc : ZS} {d y pc p : Nat} {M : ZI} {R : ZF} {L : ZY} {E : α → Option Value → ZH → Prop} {o : Option α} {tl : List Slot} {st : List Value} (hd : zdec y pc = some (.aload_n 0, 1)) (hp : pc + 1 = p) (k : zG sc d y p (.val .null :: tl) (.null :: st) (M, R, L) o E) : zG sc d y pc (.val .null :: tl) st (M, R, L) o E := by
  subst hp; exact zG_step hd (by first | rfl | simp [zstep, zld]) k
theorem zG_aon0 {α : Type} {sc : ZS} {d y pc p : Nat} {M : ZI} {R : ZF} {L : ZY} {E : α → Option Value → ZH → Prop} {o : Option α} {tl : List Slot} {st : List Value} {x : Option Nat} (hd : zdec y pc = some (.aload_n 0, 1)) (hp : pc + 1 = p) (k : zG sc d y p (.val (va_rf x) :: tl) (va_rf x :: st) (M, R, L) o E) : zG sc d y pc (.val (va_rf x) :: tl) st (M, R, L) o E := by
  cases x with
  | none => exact zG_ann0 hd hp k
  | some r => exact zG_aln0 hd hp k
theorem zG_is0 {α : Type} {sc : ZS} {d y pc p : Nat} {M : ZI} {R : ZF} {L : ZY} {E : α → Option Value → ZH → Prop} {o : Option α} {tl : List Slot} {st : List Value} {w : Slot} {x : Int32} (hd : zdec y pc = some (.istore 0, 2)) (hp : pc + 2 = p) (k : zG sc d y p (.val (.int x) :: tl) st (M, R, L) o E) : zG sc d y pc (w :: tl) (.int x :: st) (M, R, L) o E := by
  subst hp; exact zG_step hd (by first | rfl | simp [zstep, zst]) k
theorem zG_js0 {α : Type} {sc : ZS} {d y pc p : Nat} {M : ZI} {R : ZF} {L : ZY} {E : α → Option Value → ZH → Prop} {tl : List Slot} {st : List Value} {f : Int32 → Option α} {w : Slot} {x : Int32} (hd : zdec y pc = some (.istore 0, 2)) (hp : pc + 2 = p) (k : ∀ x, zG sc d y p (.val (.int x) :: tl) st (M, R, L) (f x) E) : zG sc d y pc (w :: tl) (.int x :: st) (M, R, L) (zlet x f) E := by
  subst hp; exact zG_step hd (by first | rfl | simp [zstep, zst]) (k x)
theorem zG_isn0 {α : Type} {sc : ZS} {d y pc p : Nat} {M : ZI} {R : ZF} {L : ZY} {E : α → Option Value → ZH → Prop} {o : Option α} {tl : List Slot} {st : List Value} {w : Slot} {x : Int32} (hd : zdec y pc = some (.istore_n 0, 1)) (hp : pc + 1 = p) (k : zG sc d y p (.val (.int x) :: tl) st (M, R, L) o E) : zG sc d y pc (w :: tl) (.int x :: st) (M, R, L) o E := by
  subst hp; exact zG_step hd (by first | rfl | simp [zstep, zst]) k
theorem zG_jsn0 {α : Type} {sc : ZS} {d y pc p : Nat} {M : ZI} {R : ZF} {L : ZY} {E : α → Option Value → ZH → Prop} {tl : List Slot} {st : List Value} {f : Int32 → Option α} {w : Slot} {x : Int32} (hd : zdec y pc = some (.istore_n 0, 1)) (hp : pc + 1 = p) (k : ∀ x, zG sc d y p (.val (.int x) :: tl) st (M, R, L) (f x) E) : zG sc d y pc (w :: tl) (.int x :: st) (M, R, L) (zlet x f) E := by
  subst hp; exact zG_step hd (by first | rfl | simp [zstep, zst]) (k x)
theorem zG_as0 {α : Type} {sc : ZS} {d y pc p : Nat} {M : ZI} {R : ZF} {L : ZY} {E : α → Option Value → ZH → Prop} {o : Option α} {tl : List Slot} {st : List Value} {w : Slot} {x : Nat} (hd : zdec y pc = some (.astore 0, 2)) (hp : pc + 2 = p) (k : zG sc d y p (.val (.ref x) :: tl) st (M, R, L) o E) : zG sc d y pc (w :: tl) (.ref x :: st) (M, R, L) o E := by
  subst hp; exact zG_step hd (by first | rfl | simp [zstep, zst]) k
theorem zG_az0 {α : Type} {sc : ZS} {d y pc p : Nat} {M : ZI} {R : ZF} {L : ZY} {E : α → Option Value → ZH → Prop} {o : Option α} {tl : List Slot} {st : List Value} {w : Slot} (hd : zdec y pc = some (.astore 0, 2)) (hp : pc + 2 = p) (k : zG sc d y p (.val .null :: tl) st (M, R, L) o E) : zG sc d y pc (w :: tl) (.null :: st) (M, R, L) o E := by
  subst hp; exact zG_step hd (by first | rfl | simp [zstep, zst]) k
theorem zG_aq0 {α : Type} {sc : ZS} {d y pc p : Nat} {M : ZI} {R : ZF} {L : ZY} {E : α → Option Value → ZH → Prop} {o : Option α} {tl : List Slot} {st : List Value} {w : Slot} {x : Option Nat} (hd : zdec y pc = some (.astore 0, 2)) (hp : pc + 2 = p) (k : zG sc d y p (.val (va_rf x) :: tl) st (M, R, L) o E) : zG sc d y pc (w :: tl) (va_rf x :: st) (M, R, L) o E := by
  cases x with
  | none => exact zG_az0 hd hp k
  | some r => exact zG_as0 hd hp k
theorem zG_asn0 {α : Type} {sc : ZS} {d y pc p : Nat} {M : ZI} {R : ZF} {L : ZY} {E : α → Option Value → ZH → Prop} {o : Option α} {tl : List Slot} {st : List Value} {w : Slot} {x : Nat} (hd : zdec y pc = some (.astore_n 0, 1)) (hp : pc + 1 = p) (k : zG sc d y p (.val (.ref x) :: tl) st (M, R, L) o E) : zG sc d y pc (w :: tl) (.ref x :: st) (M, R, L) o E := by
  subst hp; exact zG_step hd (by first | rfl | simp [zstep, zst]) k
theorem zG_azn0 {α : Type} {sc : ZS} {d y pc p : Nat} {M : ZI} {R : ZF} {L : ZY} {E : α → Option Value → ZH → Prop} {o : Option α} {tl : List Slot} {st : List Value} {w : Slot} (hd : zdec y pc = some (.astore_n 0, 1)) (hp : pc + 1 = p) (k : zG sc d y p (.val .null :: tl) st (M, R, L) o E) : zG sc d y pc (w :: tl) (.null :: st) (M, R, L) o E := by
  subst hp; exact zG_step hd (by first | rfl | simp [zstep, zst]) k
theorem zG_aqn0 {α : Type} {sc : ZS} {d y pc p : Nat} {M : ZI} {R : ZF} {L : ZY} {E : α → Option Value → ZH → Prop} {o : Option α} {tl : List Slot} {st : List Value} {w : Slot} {x : Option Nat} (hd : zdec y pc = some (.astore_n 0, 1)) (hp : pc + 1 = p) (k : zG sc d y p (.val (va_rf x) :: tl) st (M, R, L) o E) : zG sc d y pc (w :: tl) (va_rf x :: st) (M, R, L) o E := by
  cases x with
  | none => exact zG_azn0 hd hp k
  | some r => exact zG_asn0 hd hp k
theorem zG_ii0 {α : Type} {sc : ZS} {d y pc p : Nat} {M : ZI} {R : ZF} {L : ZY} {E : α → Option Value → ZH → Prop} {o : Option α} {tl : List Slot} {st : List Value} {x c : Int32} {n : Int} (hd : zdec y pc = some (.iinc 0 n, 3)) (hc : Int32.ofInt n = c) (hp : pc + 3 = p) (k : zG sc d y p (.val (.int (x + c)) :: tl) st (M, R, L) o E) : zG sc d y pc (.val (.int x) :: tl) st (M, R, L) o E := by
  subst hp; subst hc; exact zG_step hd (by simp [zstep]) k
theorem zG_il1 {α : Type} {sc : ZS} {d y pc p : Nat} {M : ZI} {R : ZF} {L : ZY} {E : α → Option Value → ZH → Prop} {o : Option α} {s0 : Slot} {tl : List Slot} {st : List Value} {x : Int32} (hd : zdec y pc = some (.iload 1, 2)) (hp : pc + 2 = p) (k : zG sc d y p (s0 :: .val (.int x) :: tl) (.int x :: st) (M, R, L) o E) : zG sc d y pc (s0 :: .val (.int x) :: tl) st (M, R, L) o E := by
  subst hp; exact zG_step hd (by first | rfl | simp [zstep, zld]) k
theorem zG_iln1 {α : Type} {sc : ZS} {d y pc p : Nat} {M : ZI} {R : ZF} {L : ZY} {E : α → Option Value → ZH → Prop} {o : Option α} {s0 : Slot} {tl : List Slot} {st : List Value} {x : Int32} (hd : zdec y pc = some (.iload_n 1, 1)) (hp : pc + 1 = p) (k : zG sc d y p (s0 :: .val (.int x) :: tl) (.int x :: st) (M, R, L) o E) : zG sc d y pc (s0 :: .val (.int x) :: tl) st (M, R, L) o E := by
  subst hp; exact zG_step hd (by first | rfl | simp [zstep, zld]) k
theorem zG_al1 {α : Type} {sc : ZS} {d y pc p : Nat} {M : ZI} {R : ZF} {L : ZY} {E : α → Option Value → ZH → Prop} {o : Option α} {s0 : Slot} {tl : List Slot} {st : List Value} {x : Nat} (hd : zdec y pc = some (.aload 1, 2)) (hp : pc + 2 = p) (k : zG sc d y p (s0 :: .val (.ref x) :: tl) (.ref x :: st) (M, R, L) o E) : zG sc d y pc (s0 :: .val (.ref x) :: tl) st (M, R, L) o E := by
  subst hp; exact zG_step hd (by first | rfl | simp [zstep, zld]) k
theorem zG_an1 {α : Type} {sc : ZS} {d y pc p : Nat} {M : ZI} {R : ZF} {L : ZY} {E : α → Option Value → ZH → Prop} {o : Option α} {s0 : Slot} {tl : List Slot} {st : List Value} (hd : zdec y pc = some (.aload 1, 2)) (hp : pc + 2 = p) (k : zG sc d y p (s0 :: .val .null :: tl) (.null :: st) (M, R, L) o E) : zG sc d y pc (s0 :: .val .null :: tl) st (M, R, L) o E := by
  subst hp; exact zG_step hd (by first | rfl | simp [zstep, zld]) k
theorem zG_ao1 {α : Type} {sc : ZS} {d y pc p : Nat} {M : ZI} {R : ZF} {L : ZY} {E : α → Option Value → ZH → Prop} {o : Option α} {s0 : Slot} {tl : List Slot} {st : List Value} {x : Option Nat} (hd : zdec y pc = some (.aload 1, 2)) (hp : pc + 2 = p) (k : zG sc d y p (s0 :: .val (va_rf x) :: tl) (va_rf x :: st) (M, R, L) o E) : zG sc d y pc (s0 :: .val (va_rf x) :: tl) st (M, R, L) o E := by
  cases x with
  | none => exact zG_an1 hd hp k
  | some r => exact zG_al1 hd hp k
theorem zG_aln1 {α : Type} {sc : ZS} {d y pc p : Nat} {M : ZI} {R : ZF} {L : ZY} {E : α → Option Value → ZH → Prop} {o : Option α} {s0 : Slot} {tl : List Slot} {st : List Value} {x : Nat} (hd : zdec y pc = some (.aload_n 1, 1)) (hp : pc + 1 = p) (k : zG sc d y p (s0 :: .val (.ref x) :: tl) (.ref x :: st) (M, R, L) o E) : zG sc d y pc (s0 :: .val (.ref x) :: tl) st (M, R, L) o E := by
  subst hp; exact zG_step hd (by first | rfl | simp [zstep, zld]) k
theorem zG_ann1 {α : Type} {sc : ZS} {d y pc p : Nat} {M : ZI} {R : ZF} {L : ZY} {E : α → Option Value → ZH → Prop} {o : Option α} {s0 : Slot} {tl : List Slot} {st : List Value} (hd : zdec y pc = some (.aload_n 1, 1)) (hp : pc + 1 = p) (k : zG sc d y p (s0 :: .val .null :: tl) (.null :: st) (M, R, L) o E) : zG sc d y pc (s0 :: .val .null :: tl) st (M, R, L) o E := by
  subst hp; exact zG_step hd (by first | rfl | simp [zstep, zld]) k
theorem zG_aon1 {α : Type} {sc : ZS} {d y pc p : Nat} {M : ZI} {R : ZF} {L : ZY} {E : α → Option Value → ZH → Prop} {o : Option α} {s0 : Slot} {tl : List Slot} {st : List Value} {x : Option Nat} (hd : zdec y pc = some (.aload_n 1, 1)) (hp : pc + 1 = p) (k : zG sc d y p (s0 :: .val (va_rf x) :: tl) (va_rf x :: st) (M, R, L) o E) : zG sc d y pc (s0 :: .val (va_rf x) :: tl) st (M, R, L) o E := by
  cases x with
  | none => exact zG_ann1 hd hp k
  | some r => exact zG_aln1 hd hp k
theorem zG_is1 {α : Type} {sc : ZS} {d y pc p : Nat} {M : ZI} {R : ZF} {L : ZY} {E : α → Option Value → ZH → Prop} {o : Option α} {s0 : Slot} {tl : List Slot} {st : List Value} {w : Slot} {x : Int32} (hd : zdec y pc = some (.istore 1, 2)) (hp : pc + 2 = p) (k : zG sc d y p (s0 :: .val (.int x) :: tl) st (M, R, L) o E) : zG sc d y pc (s0 :: w :: tl) (.int x :: st) (M, R, L) o E := by
  subst hp; exact zG_step hd (by first | rfl | simp [zstep, zst]) k
theorem zG_js1 {α : Type} {sc : ZS} {d y pc p : Nat} {M : ZI} {R : ZF} {L : ZY} {E : α → Option Value → ZH → Prop} {s0 : Slot} {tl : List Slot} {st : List Value} {f : Int32 → Option α} {w : Slot} {x : Int32} (hd : zdec y pc = some (.istore 1, 2)) (hp : pc + 2 = p) (k : ∀ x, zG sc d y p (s0 :: .val (.int x) :: tl) st (M, R, L) (f x) E) : zG sc d y pc (s0 :: w :: tl) (.int x :: st) (M, R, L) (zlet x f) E := by
  subst hp; exact zG_step hd (by first | rfl | simp [zstep, zst]) (k x)
theorem zG_isn1 {α : Type} {sc : ZS} {d y pc p : Nat} {M : ZI} {R : ZF} {L : ZY} {E : α → Option Value → ZH → Prop} {o : Option α} {s0 : Slot} {tl : List Slot} {st : List Value} {w : Slot} {x : Int32} (hd : zdec y pc = some (.istore_n 1, 1)) (hp : pc + 1 = p) (k : zG sc d y p (s0 :: .val (.int x) :: tl) st (M, R, L) o E) : zG sc d y pc (s0 :: w :: tl) (.int x :: st) (M, R, L) o E := by
  subst hp; exact zG_step hd (by first | rfl | simp [zstep, zst]) k
theorem zG_jsn1 {α : Type} {sc : ZS} {d y pc p : Nat} {M : ZI} {R : ZF} {L : ZY} {E : α → Option Value → ZH → Prop} {s0 : Slot} {tl : List Slot} {st : List Value} {f : Int32 → Option α} {w : Slot} {x : Int32} (hd : zdec y pc = some (.istore_n 1, 1)) (hp : pc + 1 = p) (k : ∀ x, zG sc d y p (s0 :: .val (.int x) :: tl) st (M, R, L) (f x) E) : zG sc d y pc (s0 :: w :: tl) (.int x :: st) (M, R, L) (zlet x f) E := by
  subst hp; exact zG_step hd (by first | rfl | simp [zstep, zst]) (k x)
theorem zG_as1 {α : Type} {sc : ZS} {d y pc p : Nat} {M : ZI} {R : ZF} {L : ZY} {E : α → Option Value → ZH → Prop} {o : Option α} {s0 : Slot} {tl : List Slot} {st : List Value} {w : Slot} {x : Nat} (hd : zdec y pc = some (.astore 1, 2)) (hp : pc + 2 = p) (k : zG sc d y p (s0 :: .val (.ref x) :: tl) st (M, R, L) o E) : zG sc d y pc (s0 :: w :: tl) (.ref x :: st) (M, R, L) o E := by
  subst hp; exact zG_step hd (by first | rfl | simp [zstep, zst]) k
theorem zG_az1 {α : Type} {sc : ZS} {d y pc p : Nat} {M : ZI} {R : ZF} {L : ZY} {E : α → Option Value → ZH → Prop} {o : Option α} {s0 : Slot} {tl : List Slot} {st : List Value} {w : Slot} (hd : zdec y pc = some (.astore 1, 2)) (hp : pc + 2 = p) (k : zG sc d y p (s0 :: .val .null :: tl) st (M, R, L) o E) : zG sc d y pc (s0 :: w :: tl) (.null :: st) (M, R, L) o E := by
  subst hp; exact zG_step hd (by first | rfl | simp [zstep, zst]) k
theorem zG_aq1 {α : Type} {sc : ZS} {d y pc p : Nat} {M : ZI} {R : ZF} {L : ZY} {E : α → Option Value → ZH → Prop} {o : Option α} {s0 : Slot} {tl : List Slot} {st : List Value} {w : Slot} {x : Option Nat} (hd : zdec y pc = some (.astore 1, 2)) (hp : pc + 2 = p) (k : zG sc d y p (s0 :: .val (va_rf x) :: tl) st (M, R, L) o E) : zG sc d y pc (s0 :: w :: tl) (va_rf x :: st) (M, R, L) o E := by
  cases x with
  | none => exact zG_az1 hd hp k
  | some r => exact zG_as1 hd hp k
theorem zG_asn1 {α : Type} {sc : ZS} {d y pc p : Nat} {M : ZI} {R : ZF} {L : ZY} {E : α → Option Value → ZH → Prop} {o : Option α} {s0 : Slot} {tl : List Slot} {st : List Value} {w : Slot} {x : Nat} (hd : zdec y pc = some (.astore_n 1, 1)) (hp : pc + 1 = p) (k : zG sc d y p (s0 :: .val (.ref x) :: tl) st (M, R, L) o E) : zG sc d y pc (s0 :: w :: tl) (.ref x :: st) (M, R, L) o E := by
  subst hp; exact zG_step hd (by first | rfl | simp [zstep, zst]) k
theorem zG_azn1 {α : Type} {sc : ZS} {d y pc p : Nat} {M : ZI} {R : ZF} {L : ZY} {E : α → Option Value → ZH → Prop} {o : Option α} {s0 : Slot} {tl : List Slot} {st : List Value} {w : Slot} (hd : zdec y pc = some (.astore_n 1, 1)) (hp : pc + 1 = p) (k : zG sc d y p (s0 :: .val .null :: tl) st (M, R, L) o E) : zG sc d y pc (s0 :: w :: tl) (.null :: st) (M, R, L) o E := by
  subst hp; exact zG_step hd (by first | rfl | simp [zstep, zst]) k
theorem zG_aqn1 {α : Type} {sc : ZS} {d y pc p : Nat} {M : ZI} {R : ZF} {L : ZY} {E : α → Option Value → ZH → Prop} {o : Option α} {s0 : Slot} {tl : List Slot} {st : List Value} {w : Slot} {x : Option Nat} (hd : zdec y pc = some (.astore_n 1, 1)) (hp : pc + 1 = p) (k : zG sc d y p (s0 :: .val (va_rf x) :: tl) st (M, R, L) o E) : zG sc d y pc (s0 :: w :: tl) (va_rf x :: st) (M, R, L) o E := by
  cases x with
  | none => exact zG_azn1 hd hp k
  | some r => exact zG_asn1 hd hp k
theorem zG_ii1 {α : Type} {sc : ZS} {d y pc p : Nat} {M : ZI} {R : ZF} {L : ZY} {E : α → Option Value → ZH → Prop} {o : Option α} {s0 : Slot} {tl : List Slot} {st : List Value} {x c : Int32} {n : Int} (hd : zdec y pc = some (.iinc 1 n, 3)) (hc : Int32.ofInt n = c) (hp : pc + 3 = p) (k : zG sc d y p (s0 :: .val (.int (x + c)) :: tl) st (M, R, L) o E) : zG sc d y pc (s0 :: .val (.int x) :: tl) st (M, R, L) o E := by
  subst hp; subst hc; exact zG_step hd (by simp [zstep]) k
theorem zG_il2 {α : Type} {sc : ZS} {d y pc p : Nat} {M : ZI} {R : ZF} {L : ZY} {E : α → Option Value → ZH → Prop} {o : Option α} {s0 s1 : Slot} {tl : List Slot} {st : List Value} {x : Int32} (hd : zdec y pc = some (.iload 2, 2)) (hp : pc + 2 = p) (k : zG sc d y p (s0 :: s1 :: .val (.int x) :: tl) (.int x :: st) (M, R, L) o E) : zG sc d y pc (s0 :: s1 :: .val (.int x) :: tl) st (M, R, L) o E := by
  subst hp; exact zG_step hd (by first | rfl | simp [zstep, zld]) k
theorem zG_iln2 {α : Type} {sc : ZS} {d y pc p : Nat} {M : ZI} {R : ZF} {L : ZY} {E : α → Option Value → ZH → Prop} {o : Option α} {s0 s1 : Slot} {tl : List Slot} {st : List Value} {x : Int32} (hd : zdec y pc = some (.iload_n 2, 1)) (hp : pc + 1 = p) (k : zG sc d y p (s0 :: s1 :: .val (.int x) :: tl) (.int x :: st) (M, R, L) o E) : zG sc d y pc (s0 :: s1 :: .val (.int x) :: tl) st (M, R, L) o E := by
  subst hp; exact zG_step hd (by first | rfl | simp [zstep, zld]) k
theorem zG_al2 {α : Type} {sc : ZS} {d y pc p : Nat} {M : ZI} {R : ZF} {L : ZY} {E : α → Option Value → ZH → Prop} {o : Option α} {s0 s1 : Slot} {tl : List Slot} {st : List Value} {x : Nat} (hd : zdec y pc = some (.aload 2, 2)) (hp : pc + 2 = p) (k : zG sc d y p (s0 :: s1 :: .val (.ref x) :: tl) (.ref x :: st) (M, R, L) o E) : zG sc d y pc (s0 :: s1 :: .val (.ref x) :: tl) st (M, R, L) o E := by
  subst hp; exact zG_step hd (by first | rfl | simp [zstep, zld]) k
theorem zG_an2 {α : Type} {sc : ZS} {d y pc p : Nat} {M : ZI} {R : ZF} {L : ZY} {E : α → Option Value → ZH → Prop} {o : Option α} {s0 s1 : Slot} {tl : List Slot} {st : List Value} (hd : zdec y pc = some (.aload 2, 2)) (hp : pc + 2 = p) (k : zG sc d y p (s0 :: s1 :: .val .null :: tl) (.null :: st) (M, R, L) o E) : zG sc d y pc (s0 :: s1 :: .val .null :: tl) st (M, R, L) o E := by
  subst hp; exact zG_step hd (by first | rfl | simp [zstep, zld]) k
theorem zG_ao2 {α : Type} {sc : ZS} {d y pc p : Nat} {M : ZI} {R : ZF} {L : ZY} {E : α → Option Value → ZH → Prop} {o : Option α} {s0 s1 : Slot} {tl : List Slot} {st : List Value} {x : Option Nat} (hd : zdec y pc = some (.aload 2, 2)) (hp : pc + 2 = p) (k : zG sc d y p (s0 :: s1 :: .val (va_rf x) :: tl) (va_rf x :: st) (M, R, L) o E) : zG sc d y pc (s0 :: s1 :: .val (va_rf x) :: tl) st (M, R, L) o E := by
  cases x with
  | none => exact zG_an2 hd hp k
  | some r => exact zG_al2 hd hp k
theorem zG_aln2 {α : Type} {sc : ZS} {d y pc p : Nat} {M : ZI} {R : ZF} {L : ZY} {E : α → Option Value → ZH → Prop} {o : Option α} {s0 s1 : Slot} {tl : List Slot} {st : List Value} {x : Nat} (hd : zdec y pc = some (.aload_n 2, 1)) (hp : pc + 1 = p) (k : zG sc d y p (s0 :: s1 :: .val (.ref x) :: tl) (.ref x :: st) (M, R, L) o E) : zG sc d y pc (s0 :: s1 :: .val (.ref x) :: tl) st (M, R, L) o E := by
  subst hp; exact zG_step hd (by first | rfl | simp [zstep, zld]) k
theorem zG_ann2 {α : Type} {sc : ZS} {d y pc p : Nat} {M : ZI} {R : ZF} {L : ZY} {E : α → Option Value → ZH → Prop} {o : Option α} {s0 s1 : Slot} {tl : List Slot} {st : List Value} (hd : zdec y pc = some (.aload_n 2, 1)) (hp : pc + 1 = p) (k : zG sc d y p (s0 :: s1 :: .val .null :: tl) (.null :: st) (M, R, L) o E) : zG sc d y pc (s0 :: s1 :: .val .null :: tl) st (M, R, L) o E := by
  subst hp; exact zG_step hd (by first | rfl | simp [zstep, zld]) k
theorem zG_aon2 {α : Type} {sc : ZS} {d y pc p : Nat} {M : ZI} {R : ZF} {L : ZY} {E : α → Option Value → ZH → Prop} {o : Option α} {s0 s1 : Slot} {tl : List Slot} {st : List Value} {x : Option Nat} (hd : zdec y pc = some (.aload_n 2, 1)) (hp : pc + 1 = p) (k : zG sc d y p (s0 :: s1 :: .val (va_rf x) :: tl) (va_rf x :: st) (M, R, L) o E) : zG sc d y pc (s0 :: s1 :: .val (va_rf x) :: tl) st (M, R, L) o E := by
  cases x with
  | none => exact zG_ann2 hd hp k
  | some r => exact zG_aln2 hd hp k
theorem zG_is2 {α : Type} {sc : ZS} {d y pc p : Nat} {M : ZI} {R : ZF} {L : ZY} {E : α → Option Value → ZH → Prop} {o : Option α} {s0 s1 : Slot} {tl : List Slot} {st : List Value} {w : Slot} {x : Int32} (hd : zdec y pc = some (.istore 2, 2)) (hp : pc + 2 = p) (k : zG sc d y p (s0 :: s1 :: .val (.int x) :: tl) st (M, R, L) o E) : zG sc d y pc (s0 :: s1 :: w :: tl) (.int x :: st) (M, R, L) o E := by
  subst hp; exact zG_step hd (by first | rfl | simp [zstep, zst]) k
theorem zG_js2 {α : Type} {sc : ZS} {d y pc p : Nat} {M : ZI} {R : ZF} {L : ZY} {E : α → Option Value → ZH → Prop} {s0 s1 : Slot} {tl : List Slot} {st : List Value} {f : Int32 → Option α} {w : Slot} {x : Int32} (hd : zdec y pc = some (.istore 2, 2)) (hp : pc + 2 = p) (k : ∀ x, zG sc d y p (s0 :: s1 :: .val (.int x) :: tl) st (M, R, L) (f x) E) : zG sc d y pc (s0 :: s1 :: w :: tl) (.int x :: st) (M, R, L) (zlet x f) E := by
  subst hp; exact zG_step hd (by first | rfl | simp [zstep, zst]) (k x)
theorem zG_isn2 {α : Type} {sc : ZS} {d y pc p : Nat} {M : ZI} {R : ZF} {L : ZY} {E : α → Option Value → ZH → Prop} {o : Option α} {s0 s1 : Slot} {tl : List Slot} {st : List Value} {w : Slot} {x : Int32} (hd : zdec y pc = some (.istore_n 2, 1)) (hp : pc + 1 = p) (k : zG sc d y p (s0 :: s1 :: .val (.int x) :: tl) st (M, R, L) o E) : zG sc d y pc (s0 :: s1 :: w :: tl) (.int x :: st) (M, R, L) o E := by
  subst hp; exact zG_step hd (by first | rfl | simp [zstep, zst]) k
theorem zG_jsn2 {α : Type} {sc : ZS} {d y pc p : Nat} {M : ZI} {R : ZF} {L : ZY} {E : α → Option Value → ZH → Prop} {s0 s1 : Slot} {tl : List Slot} {st : List Value} {f : Int32 → Option α} {w : Slot} {x : Int32} (hd : zdec y pc = some (.istore_n 2, 1)) (hp : pc + 1 = p) (k : ∀ x, zG sc d y p (s0 :: s1 :: .val (.int x) :: tl) st (M, R, L) (f x) E) : zG sc d y pc (s0 :: s1 :: w :: tl) (.int x :: st) (M, R, L) (zlet x f) E := by
  subst hp; exact zG_step hd (by first | rfl | simp [zstep, zst]) (k x)
theorem zG_as2 {α : Type} {sc : ZS} {d y pc p : Nat} {M : ZI} {R : ZF} {L : ZY} {E : α → Option Value → ZH → Prop} {o : Option α} {s0 s1 : Slot} {tl : List Slot} {st : List Value} {w : Slot} {x : Nat} (hd : zdec y pc = some (.astore 2, 2)) (hp : pc + 2 = p) (k : zG sc d y p (s0 :: s1 :: .val (.ref x) :: tl) st (M, R, L) o E) : zG sc d y pc (s0 :: s1 :: w :: tl) (.ref x :: st) (M, R, L) o E := by
  subst hp; exact zG_step hd (by first | rfl | simp [zstep, zst]) k
theorem zG_az2 {α : Type} {sc : ZS} {d y pc p : Nat} {M : ZI} {R : ZF} {L : ZY} {E : α → Option Value → ZH → Prop} {o : Option α} {s0 s1 : Slot} {tl : List Slot} {st : List Value} {w : Slot} (hd : zdec y pc = some (.astore 2, 2)) (hp : pc + 2 = p) (k : zG sc d y p (s0 :: s1 :: .val .null :: tl) st (M, R, L) o E) : zG sc d y pc (s0 :: s1 :: w :: tl) (.null :: st) (M, R, L) o E := by
  subst hp; exact zG_step hd (by first | rfl | simp [zstep, zst]) k
theorem zG_aq2 {α : Type} {sc : ZS} {d y pc p : Nat} {M : ZI} {R : ZF} {L : ZY} {E : α → Option Value → ZH → Prop} {o : Option α} {s0 s1 : Slot} {tl : List Slot} {st : List Value} {w : Slot} {x : Option Nat} (hd : zdec y pc = some (.astore 2, 2)) (hp : pc + 2 = p) (k : zG sc d y p (s0 :: s1 :: .val (va_rf x) :: tl) st (M, R, L) o E) : zG sc d y pc (s0 :: s1 :: w :: tl) (va_rf x :: st) (M, R, L) o E := by
  cases x with
  | none => exact zG_az2 hd hp k
  | some r => exact zG_as2 hd hp k
theorem zG_asn2 {α : Type} {sc : ZS} {d y pc p : Nat} {M : ZI} {R : ZF} {L : ZY} {E : α → Option Value → ZH → Prop} {o : Option α} {s0 s1 : Slot} {tl : List Slot} {st : List Value} {w : Slot} {x : Nat} (hd : zdec y pc = some (.astore_n 2, 1)) (hp : pc + 1 = p) (k : zG sc d y p (s0 :: s1 :: .val (.ref x) :: tl) st (M, R, L) o E) : zG sc d y pc (s0 :: s1 :: w :: tl) (.ref x :: st) (M, R, L) o E := by
  subst hp; exact zG_step hd (by first | rfl | simp [zstep, zst]) k
theorem zG_azn2 {α : Type} {sc : ZS} {d y pc p : Nat} {M : ZI} {R : ZF} {L : ZY} {E : α → Option Value → ZH → Prop} {o : Option α} {s0 s1 : Slot} {tl : List Slot} {st : List Value} {w : Slot} (hd : zdec y pc = some (.astore_n 2, 1)) (hp : pc + 1 = p) (k : zG sc d y p (s0 :: s1 :: .val .null :: tl) st (M, R, L) o E) : zG sc d y pc (s0 :: s1 :: w :: tl) (.null :: st) (M, R, L) o E := by
  subst hp; exact zG_step hd (by first | rfl | simp [zstep, zst]) k
theorem zG_aqn2 {α : Type} {sc : ZS} {d y pc p : Nat} {M : ZI} {R : ZF} {L : ZY} {E : α → Option Value → ZH → Prop} {o : Option α} {s0 s1 : Slot} {tl : List Slot} {st : List Value} {w : Slot} {x : Option Nat} (hd : zdec y pc = some (.astore_n 2, 1)) (hp : pc + 1 = p) (k : zG sc d y p (s0 :: s1 :: .val (va_rf x) :: tl) st (M, R, L) o E) : zG sc d y pc (s0 :: s1 :: w :: tl) (va_rf x :: st) (M, R, L) o E := by
  cases x with
  | none => exact zG_azn2 hd hp k
  | some r => exact zG_asn2 hd hp k
theorem zG_ii2 {α : Type} {sc : ZS} {d y pc p : Nat} {M : ZI} {R : ZF} {L : ZY} {E : α → Option Value → ZH → Prop} {o : Option α} {s0 s1 : Slot} {tl : List Slot} {st : List Value} {x c : Int32} {n : Int} (hd : zdec y pc = some (.iinc 2 n, 3)) (hc : Int32.ofInt n = c) (hp : pc + 3 = p) (k : zG sc d y p (s0 :: s1 :: .val (.int (x + c)) :: tl) st (M, R, L) o E) : zG sc d y pc (s0 :: s1 :: .val (.int x) :: tl) st (M, R, L) o E := by
  subst hp; subst hc; exact zG_step hd (by simp [zstep]) k
theorem zG_il3 {α : Type} {sc : ZS} {d y pc p : Nat} {M : ZI} {R : ZF} {L : ZY} {E : α → Option Value → ZH → Prop} {o : Option α} {s0 s1 s2 : Slot} {tl : List Slot} {st : List Value} {x : Int32} (hd : zdec y pc = some (.iload 3, 2)) (hp : pc + 2 = p) (k : zG sc d y p (s0 :: s1 :: s2 :: .val (.int x) :: tl) (.int x :: st) (M, R, L) o E) : zG sc d y pc (s0 :: s1 :: s2 :: .val (.int x) :: tl) st (M, R, L) o E := by
  subst hp; exact zG_step hd (by first | rfl | simp [zstep, zld]) k
theorem zG_iln3 {α : Type} {sc : ZS} {d y pc p : Nat} {M : ZI} {R : ZF} {L : ZY} {E : α → Option Value → ZH → Prop} {o : Option α} {s0 s1 s2 : Slot} {tl : List Slot} {st : List Value} {x : Int32} (hd : zdec y pc = some (.iload_n 3, 1)) (hp : pc + 1 = p) (k : zG sc d y p (s0 :: s1 :: s2 :: .val (.int x) :: tl) (.int x :: st) (M, R, L) o E) : zG sc d y pc (s0 :: s1 :: s2 :: .val (.int x) :: tl) st (M, R, L) o E := by
  subst hp; exact zG_step hd (by first | rfl | simp [zstep, zld]) k
theorem zG_al3 {α : Type} {sc : ZS} {d y pc p : Nat} {M : ZI} {R : ZF} {L : ZY} {E : α → Option Value → ZH → Prop} {o : Option α} {s0 s1 s2 : Slot} {tl : List Slot} {st : List Value} {x : Nat} (hd : zdec y pc = some (.aload 3, 2)) (hp : pc + 2 = p) (k : zG sc d y p (s0 :: s1 :: s2 :: .val (.ref x) :: tl) (.ref x :: st) (M, R, L) o E) : zG sc d y pc (s0 :: s1 :: s2 :: .val (.ref x) :: tl) st (M, R, L) o E := by
  subst hp; exact zG_step hd (by first | rfl | simp [zstep, zld]) k
theorem zG_an3 {α : Type} {sc : ZS} {d y pc p : Nat} {M : ZI} {R : ZF} {L : ZY} {E : α → Option Value → ZH → Prop} {o : Option α} {s0 s1 s2 : Slot} {tl : List Slot} {st : List Value} (hd : zdec y pc = some (.aload 3, 2)) (hp : pc + 2 = p) (k : zG sc d y p (s0 :: s1 :: s2 :: .val .null :: tl) (.null :: st) (M, R, L) o E) : zG sc d y pc (s0 :: s1 :: s2 :: .val .null :: tl) st (M, R, L) o E := by
  subst hp; exact zG_step hd (by first | rfl | simp [zstep, zld]) k
theorem zG_ao3 {α : Type} {sc : ZS} {d y pc p : Nat} {M : ZI} {R : ZF} {L : ZY} {E : α → Option Value → ZH → Prop} {o : Option α} {s0 s1 s2 : Slot} {tl : List Slot} {st : List Value} {x : Option Nat} (hd : zdec y pc = some (.aload 3, 2)) (hp : pc + 2 = p) (k : zG sc d y p (s0 :: s1 :: s2 :: .val (va_rf x) :: tl) (va_rf x :: st) (M, R, L) o E) : zG sc d y pc (s0 :: s1 :: s2 :: .val (va_rf x) :: tl) st (M, R, L) o E := by
  cases x with
  | none => exact zG_an3 hd hp k
  | some r => exact zG_al3 hd hp k
theorem zG_aln3 {α : Type} {sc : ZS} {d y pc p : Nat} {M : ZI} {R : ZF} {L : ZY} {E : α → Option Value → ZH → Prop} {o : Option α} {s0 s1 s2 : Slot} {tl : List Slot} {st : List Value} {x : Nat} (hd : zdec y pc = some (.aload_n 3, 1)) (hp : pc + 1 = p) (k : zG sc d y p (s0 :: s1 :: s2 :: .val (.ref x) :: tl) (.ref x :: st) (M, R, L) o E) : zG sc d y pc (s0 :: s1 :: s2 :: .val (.ref x) :: tl) st (M, R, L) o E := by
  subst hp; exact zG_step hd (by first | rfl | simp [zstep, zld]) k
theorem zG_ann3 {α : Type} {sc : ZS} {d y pc p : Nat} {M : ZI} {R : ZF} {L : ZY} {E : α → Option Value → ZH → Prop} {o : Option α} {s0 s1 s2 : Slot} {tl : List Slot} {st : List Value} (hd : zdec y pc = some (.aload_n 3, 1)) (hp : pc + 1 = p) (k : zG sc d y p (s0 :: s1 :: s2 :: .val .null :: tl) (.null :: st) (M, R, L) o E) : zG sc d y pc (s0 :: s1 :: s2 :: .val .null :: tl) st (M, R, L) o E := by
  subst hp; exact zG_step hd (by first | rfl | simp [zstep, zld]) k
theorem zG_aon3 {α : Type} {sc : ZS} {d y pc p : Nat} {M : ZI} {R : ZF} {L : ZY} {E : α → Option Value → ZH → Prop} {o : Option α} {s0 s1 s2 : Slot} {tl : List Slot} {st : List Value} {x : Option Nat} (hd : zdec y pc = some (.aload_n 3, 1)) (hp : pc + 1 = p) (k : zG sc d y p (s0 :: s1 :: s2 :: .val (va_rf x) :: tl) (va_rf x :: st) (M, R, L) o E) : zG sc d y pc (s0 :: s1 :: s2 :: .val (va_rf x) :: tl) st (M, R, L) o E := by
  cases x with
  | none => exact zG_ann3 hd hp k
  | some r => exact zG_aln3 hd hp k
theorem zG_is3 {α : Type} {sc : ZS} {d y pc p : Nat} {M : ZI} {R : ZF} {L : ZY} {E : α → Option Value → ZH → Prop} {o : Option α} {s0 s1 s2 : Slot} {tl : List Slot} {st : List Value} {w : Slot} {x : Int32} (hd : zdec y pc = some (.istore 3, 2)) (hp : pc + 2 = p) (k : zG sc d y p (s0 :: s1 :: s2 :: .val (.int x) :: tl) st (M, R, L) o E) : zG sc d y pc (s0 :: s1 :: s2 :: w :: tl) (.int x :: st) (M, R, L) o E := by
  subst hp; exact zG_step hd (by first | rfl | simp [zstep, zst]) k
theorem zG_js3 {α : Type} {sc : ZS} {d y pc p : Nat} {M : ZI} {R : ZF} {L : ZY} {E : α → Option Value → ZH → Prop} {s0 s1 s2 : Slot} {tl : List Slot} {st : List Value} {f : Int32 → Option α} {w : Slot} {x : Int32} (hd : zdec y pc = some (.istore 3, 2)) (hp : pc + 2 = p) (k : ∀ x, zG sc d y p (s0 :: s1 :: s2 :: .val (.int x) :: tl) st (M, R, L) (f x) E) : zG sc d y pc (s0 :: s1 :: s2 :: w :: tl) (.int x :: st) (M, R, L) (zlet x f) E := by
  subst hp; exact zG_step hd (by first | rfl | simp [zstep, zst]) (k x)
theorem zG_isn3 {α : Type} {sc : ZS} {d y pc p : Nat} {M : ZI} {R : ZF} {L : ZY} {E : α → Option Value → ZH → Prop} {o : Option α} {s0 s1 s2 : Slot} {tl : List Slot} {st : List Value} {w : Slot} {x : Int32} (hd : zdec y pc = some (.istore_n 3, 1)) (hp : pc + 1 = p) (k : zG sc d y p (s0 :: s1 :: s2 :: .val (.int x) :: tl) st (M, R, L) o E) : zG sc d y pc (s0 :: s1 :: s2 :: w :: tl) (.int x :: st) (M, R, L) o E := by
  subst hp; exact zG_step hd (by first | rfl | simp [zstep, zst]) k
theorem zG_jsn3 {α : Type} {sc : ZS} {d y pc p : Nat} {M : ZI} {R : ZF} {L : ZY} {E : α → Option Value → ZH → Prop} {s0 s1 s2 : Slot} {tl : List Slot} {st : List Value} {f : Int32 → Option α} {w : Slot} {x : Int32} (hd : zdec y pc = some (.istore_n 3, 1)) (hp : pc + 1 = p) (k : ∀ x, zG sc d y p (s0 :: s1 :: s2 :: .val (.int x) :: tl) st (M, R, L) (f x) E) : zG sc d y pc (s0 :: s1 :: s2 :: w :: tl) (.int x :: st) (M, R, L) (zlet x f) E := by
  subst hp; exact zG_step hd (by first | rfl | simp [zstep, zst]) (k x)
theorem zG_as3 {α : Type} {sc : ZS} {d y pc p : Nat} {M : ZI} {R : ZF} {L : ZY} {E : α → Option Value → ZH → Prop} {o : Option α} {s0 s1 s2 : Slot} {tl : List Slot} {st : List Value} {w : Slot} {x : Nat} (hd : zdec y pc = some (.astore 3, 2)) (hp : pc + 2 = p) (k : zG sc d y p (s0 :: s1 :: s2 :: .val (.ref x) :: tl) st (M, R, L) o E) : zG sc d y pc (s0 :: s1 :: s2 :: w :: tl) (.ref x :: st) (M, R, L) o E := by
  subst hp; exact zG_step hd (by first | rfl | simp [zstep, zst]) k
theorem zG_az3 {α : Type} {sc : ZS} {d y pc p : Nat} {M : ZI} {R : ZF} {L : ZY} {E : α → Option Value → ZH → Prop} {o : Option α} {s0 s1 s2 : Slot} {tl : List Slot} {st : List Value} {w : Slot} (hd : zdec y pc = some (.astore 3, 2)) (hp : pc + 2 = p) (k : zG sc d y p (s0 :: s1 :: s2 :: .val .null :: tl) st (M, R, L) o E) : zG sc d y pc (s0 :: s1 :: s2 :: w :: tl) (.null :: st) (M, R, L) o E := by
  subst hp; exact zG_step hd (by first | rfl | simp [zstep, zst]) k
theorem zG_aq3 {α : Type} {sc : ZS} {d y pc p : Nat} {M : ZI} {R : ZF} {L : ZY} {E : α → Option Value → ZH → Prop} {o : Option α} {s0 s1 s2 : Slot} {tl : List Slot} {st : List Value} {w : Slot} {x : Option Nat} (hd : zdec y pc = some (.astore 3, 2)) (hp : pc + 2 = p) (k : zG sc d y p (s0 :: s1 :: s2 :: .val (va_rf x) :: tl) st (M, R, L) o E) : zG sc d y pc (s0 :: s1 :: s2 :: w :: tl) (va_rf x :: st) (M, R, L) o E := by
  cases x with
  | none => exact zG_az3 hd hp k
  | some r => exact zG_as3 hd hp k
theorem zG_asn3 {α : Type} {sc : ZS} {d y pc p : Nat} {M : ZI} {R : ZF} {L : ZY} {E : α → Option Value → ZH → Prop} {o : Option α} {s0 s1 s2 : Slot} {tl : List Slot} {st : List Value} {w : Slot} {x : Nat} (hd : zdec y pc = some (.astore_n 3, 1)) (hp : pc + 1 = p) (k : zG sc d y p (s0 :: s1 :: s2 :: .val (.ref x) :: tl) st (M, R, L) o E) : zG sc d y pc (s0 :: s1 :: s2 :: w :: tl) (.ref x :: st) (M, R, L) o E := by
  subst hp; exact zG_step hd (by first | rfl | simp [zstep, zst]) k
theorem zG_azn3 {α : Type} {sc : ZS} {d y pc p : Nat} {M : ZI} {R : ZF} {L : ZY} {E : α → Option Value → ZH → Prop} {o : Option α} {s0 s1 s2 : Slot} {tl : List Slot} {st : List Value} {w : Slot} (hd : zdec y pc = some (.astore_n 3, 1)) (hp : pc + 1 = p) (k : zG sc d y p (s0 :: s1 :: s2 :: .val .null :: tl) st (M, R, L) o E) : zG sc d y pc (s0 :: s1 :: s2 :: w :: tl) (.null :: st) (M, R, L) o E := by
  subst hp; exact zG_step hd (by first | rfl | simp [zstep, zst]) k
theorem zG_aqn3 {α : Type} {sc : ZS} {d y pc p : Nat} {M : ZI} {R : ZF} {L : ZY} {E : α → Option Value → ZH → Prop} {o : Option α} {s0 s1 s2 : Slot} {tl : List Slot} {st : List Value} {w : Slot} {x : Option Nat} (hd : zdec y pc = some (.astore_n 3, 1)) (hp : pc + 1 = p) (k : zG sc d y p (s0 :: s1 :: s2 :: .val (va_rf x) :: tl) st (M, R, L) o E) : zG sc d y pc (s0 :: s1 :: s2 :: w :: tl) (va_rf x :: st) (M, R, L) o E := by
  cases x with
  | none => exact zG_azn3 hd hp k
  | some r => exact zG_asn3 hd hp k
theorem zG_ii3 {α : Type} {sc : ZS} {d y pc p : Nat} {M : ZI} {R : ZF} {L : ZY} {E : α → Option Value → ZH → Prop} {o : Option α} {s0 s1 s2 : Slot} {tl : List Slot} {st : List Value} {x c : Int32} {n : Int} (hd : zdec y pc = some (.iinc 3 n, 3)) (hc : Int32.ofInt n = c) (hp : pc + 3 = p) (k : zG sc d y p (s0 :: s1 :: s2 :: .val (.int (x + c)) :: tl) st (M, R, L) o E) : zG sc d y pc (s0 :: s1 :: s2 :: .val (.int x) :: tl) st (M, R, L) o E := by
  subst hp; subst hc; exact zG_step hd (by simp [zstep]) k
theorem zG_il4 {α : Type} {sc : ZS} {d y pc p : Nat} {M : ZI} {R : ZF} {L : ZY} {E : α → Option Value → ZH → Prop} {o : Option α} {s0 s1 s2 s3 : Slot} {tl : List Slot} {st : List Value} {x : Int32} (hd : zdec y pc = some (.iload 4, 2)) (hp : pc + 2 = p) (k : zG sc d y p (s0 :: s1 :: s2 :: s3 :: .val (.int x) :: tl) (.int x :: st) (M, R, L) o E) : zG sc d y pc (s0 :: s1 :: s2 :: s3 :: .val (.int x) :: tl) st (M, R, L) o E := by
  subst hp; exact zG_step hd (by first | rfl | simp [zstep, zld]) k
theorem zG_al4 {α : Type} {sc : ZS} {d y pc p : Nat} {M : ZI} {R : ZF} {L : ZY} {E : α → Option Value → ZH → Prop} {o : Option α} {s0 s1 s2 s3 : Slot} {tl : List Slot} {st : List Value} {x : Nat} (hd : zdec y pc = some (.aload 4, 2)) (hp : pc + 2 = p) (k : zG sc d y p (s0 :: s1 :: s2 :: s3 :: .val (.ref x) :: tl) (.ref x :: st) (M, R, L) o E) : zG sc d y pc (s0 :: s1 :: s2 :: s3 :: .val (.ref x) :: tl) st (M, R, L) o E := by
  subst hp; exact zG_step hd (by first | rfl | simp [zstep, zld]) k
theorem zG_an4 {α : Type} {sc : ZS} {d y pc p : Nat} {M : ZI} {R : ZF} {L : ZY} {E : α → Option Value → ZH → Prop} {o : Option α} {s0 s1 s2 s3 : Slot} {tl : List Slot} {st : List Value} (hd : zdec y pc = some (.aload 4, 2)) (hp : pc + 2 = p) (k : zG sc d y p (s0 :: s1 :: s2 :: s3 :: .val .null :: tl) (.null :: st) (M, R, L) o E) : zG sc d y pc (s0 :: s1 :: s2 :: s3 :: .val .null :: tl) st (M, R, L) o E := by
  subst hp; exact zG_step hd (by first | rfl | simp [zstep, zld]) k
theorem zG_ao4 {α : Type} {sc : ZS} {d y pc p : Nat} {M : ZI} {R : ZF} {L : ZY} {E : α → Option Value → ZH → Prop} {o : Option α} {s0 s1 s2 s3 : Slot} {tl : List Slot} {st : List Value} {x : Option Nat} (hd : zdec y pc = some (.aload 4, 2)) (hp : pc + 2 = p) (k : zG sc d y p (s0 :: s1 :: s2 :: s3 :: .val (va_rf x) :: tl) (va_rf x :: st) (M, R, L) o E) : zG sc d y pc (s0 :: s1 :: s2 :: s3 :: .val (va_rf x) :: tl) st (M, R, L) o E := by
  cases x with
  | none => exact zG_an4 hd hp k
  | some r => exact zG_al4 hd hp k
theorem zG_is4 {α : Type} {sc : ZS} {d y pc p : Nat} {M : ZI} {R : ZF} {L : ZY} {E : α → Option Value → ZH → Prop} {o : Option α} {s0 s1 s2 s3 : Slot} {tl : List Slot} {st : List Value} {w : Slot} {x : Int32} (hd : zdec y pc = some (.istore 4, 2)) (hp : pc + 2 = p) (k : zG sc d y p (s0 :: s1 :: s2 :: s3 :: .val (.int x) :: tl) st (M, R, L) o E) : zG sc d y pc (s0 :: s1 :: s2 :: s3 :: w :: tl) (.int x :: st) (M, R, L) o E := by
  subst hp; exact zG_step hd (by first | rfl | simp [zstep, zst]) k
theorem zG_js4 {α : Type} {sc : ZS} {d y pc p : Nat} {M : ZI} {R : ZF} {L : ZY} {E : α → Option Value → ZH → Prop} {s0 s1 s2 s3 : Slot} {tl : List Slot} {st : List Value} {f : Int32 → Option α} {w : Slot} {x : Int32} (hd : zdec y pc = some (.istore 4, 2)) (hp : pc + 2 = p) (k : ∀ x, zG sc d y p (s0 :: s1 :: s2 :: s3 :: .val (.int x) :: tl) st (M, R, L) (f x) E) : zG sc d y pc (s0 :: s1 :: s2 :: s3 :: w :: tl) (.int x :: st) (M, R, L) (zlet x f) E := by
  subst hp; exact zG_step hd (by first | rfl | simp [zstep, zst]) (k x)
theorem zG_as4 {α : Type} {sc : ZS} {d y pc p : Nat} {M : ZI} {R : ZF} {L : ZY} {E : α → Option Value → ZH → Prop} {o : Option α} {s0 s1 s2 s3 : Slot} {tl : List Slot} {st : List Value} {w : Slot} {x : Nat} (hd : zdec y pc = some (.astore 4, 2)) (hp : pc + 2 = p) (k : zG sc d y p (s0 :: s1 :: s2 :: s3 :: .val (.ref x) :: tl) st (M, R, L) o E) : zG sc d y pc (s0 :: s1 :: s2 :: s3 :: w :: tl) (.ref x :: st) (M, R, L) o E := by
  subst hp; exact zG_step hd (by first | rfl | simp [zstep, zst]) k
theorem zG_az4 {α : Type} {sc : ZS} {d y pc p : Nat} {M : ZI} {R : ZF} {L : ZY} {E : α → Option Value → ZH → Prop} {o : Option α} {s0 s1 s2 s3 : Slot} {tl : List Slot} {st : List Value} {w : Slot} (hd : zdec y pc = some (.astore 4, 2)) (hp : pc + 2 = p) (k : zG sc d y p (s0 :: s1 :: s2 :: s3 :: .val .null :: tl) st (M, R, L) o E) : zG sc d y pc (s0 :: s1 :: s2 :: s3 :: w :: tl) (.null :: st) (M, R, L) o E := by
  subst hp; exact zG_step hd (by first | rfl | simp [zstep, zst]) k
theorem zG_aq4 {α : Type} {sc : ZS} {d y pc p : Nat} {M : ZI} {R : ZF} {L : ZY} {E : α → Option Value → ZH → Prop} {o : Option α} {s0 s1 s2 s3 : Slot} {tl : List Slot} {st : List Value} {w : Slot} {x : Option Nat} (hd : zdec y pc = some (.astore 4, 2)) (hp : pc + 2 = p) (k : zG sc d y p (s0 :: s1 :: s2 :: s3 :: .val (va_rf x) :: tl) st (M, R, L) o E) : zG sc d y pc (s0 :: s1 :: s2 :: s3 :: w :: tl) (va_rf x :: st) (M, R, L) o E := by
  cases x with
  | none => exact zG_az4 hd hp k
  | some r => exact zG_as4 hd hp k
theorem zG_ii4 {α : Type} {sc : ZS} {d y pc p : Nat} {M : ZI} {R : ZF} {L : ZY} {E : α → Option Value → ZH → Prop} {o : Option α} {s0 s1 s2 s3 : Slot} {tl : List Slot} {st : List Value} {x c : Int32} {n : Int} (hd : zdec y pc = some (.iinc 4 n, 3)) (hc : Int32.ofInt n = c) (hp : pc + 3 = p) (k : zG sc d y p (s0 :: s1 :: s2 :: s3 :: .val (.int (x + c)) :: tl) st (M, R, L) o E) : zG sc d y pc (s0 :: s1 :: s2 :: s3 :: .val (.int x) :: tl) st (M, R, L) o E := by
  subst hp; subst hc; exact zG_step hd (by simp [zstep]) k
theorem zG_il5 {α : Type} {sc : ZS} {d y pc p : Nat} {M : ZI} {R : ZF} {L : ZY} {E : α → Option Value → ZH → Prop} {o : Option α} {s0 s1 s2 s3 s4 : Slot} {tl : List Slot} {st : List Value} {x : Int32} (hd : zdec y pc = some (.iload 5, 2)) (hp : pc + 2 = p) (k : zG sc d y p (s0 :: s1 :: s2 :: s3 :: s4 :: .val (.int x) :: tl) (.int x :: st) (M, R, L) o E) : zG sc d y pc (s0 :: s1 :: s2 :: s3 :: s4 :: .val (.int x) :: tl) st (M, R, L) o E := by
  subst hp; exact zG_step hd (by first | rfl | simp [zstep, zld]) k
theorem zG_al5 {α : Type} {sc : ZS} {d y pc p : Nat} {M : ZI} {R : ZF} {L : ZY} {E : α → Option Value → ZH → Prop} {o : Option α} {s0 s1 s2 s3 s4 : Slot} {tl : List Slot} {st : List Value} {x : Nat} (hd : zdec y pc = some (.aload 5, 2)) (hp : pc + 2 = p) (k : zG sc d y p (s0 :: s1 :: s2 :: s3 :: s4 :: .val (.ref x) :: tl) (.ref x :: st) (M, R, L) o E) : zG sc d y pc (s0 :: s1 :: s2 :: s3 :: s4 :: .val (.ref x) :: tl) st (M, R, L) o E := by
  subst hp; exact zG_step hd (by first | rfl | simp [zstep, zld]) k
theorem zG_an5 {α : Type} {sc : ZS} {d y pc p : Nat} {M : ZI} {R : ZF} {L : ZY} {E : α → Option Value → ZH → Prop} {o : Option α} {s0 s1 s2 s3 s4 : Slot} {tl : List Slot} {st : List Value} (hd : zdec y pc = some (.aload 5, 2)) (hp : pc + 2 = p) (k : zG sc d y p (s0 :: s1 :: s2 :: s3 :: s4 :: .val .null :: tl) (.null :: st) (M, R, L) o E) : zG sc d y pc (s0 :: s1 :: s2 :: s3 :: s4 :: .val .null :: tl) st (M, R, L) o E := by
  subst hp; exact zG_step hd (by first | rfl | simp [zstep, zld]) k
theorem zG_ao5 {α : Type} {sc : ZS} {d y pc p : Nat} {M : ZI} {R : ZF} {L : ZY} {E : α → Option Value → ZH → Prop} {o : Option α} {s0 s1 s2 s3 s4 : Slot} {tl : List Slot} {st : List Value} {x : Option Nat} (hd : zdec y pc = some (.aload 5, 2)) (hp : pc + 2 = p) (k : zG sc d y p (s0 :: s1 :: s2 :: s3 :: s4 :: .val (va_rf x) :: tl) (va_rf x :: st) (M, R, L) o E) : zG sc d y pc (s0 :: s1 :: s2 :: s3 :: s4 :: .val (va_rf x) :: tl) st (M, R, L) o E := by
  cases x with
  | none => exact zG_an5 hd hp k
  | some r => exact zG_al5 hd hp k
theorem zG_is5 {α : Type} {sc : ZS} {d y pc p : Nat} {M : ZI} {R : ZF} {L : ZY} {E : α → Option Value → ZH → Prop} {o : Option α} {s0 s1 s2 s3 s4 : Slot} {tl : List Slot} {st : List Value} {w : Slot} {x : Int32} (hd : zdec y pc = some (.istore 5, 2)) (hp : pc + 2 = p) (k : zG sc d y p (s0 :: s1 :: s2 :: s3 :: s4 :: .val (.int x) :: tl) st (M, R, L) o E) : zG sc d y pc (s0 :: s1 :: s2 :: s3 :: s4 :: w :: tl) (.int x :: st) (M, R, L) o E := by
  subst hp; exact zG_step hd (by first | rfl | simp [zstep, zst]) k
theorem zG_js5 {α : Type} {sc : ZS} {d y pc p : Nat} {M : ZI} {R : ZF} {L : ZY} {E : α → Option Value → ZH → Prop} {s0 s1 s2 s3 s4 : Slot} {tl : List Slot} {st : List Value} {f : Int32 → Option α} {w : Slot} {x : Int32} (hd : zdec y pc = some (.istore 5, 2)) (hp : pc + 2 = p) (k : ∀ x, zG sc d y p (s0 :: s1 :: s2 :: s3 :: s4 :: .val (.int x) :: tl) st (M, R, L) (f x) E) : zG sc d y pc (s0 :: s1 :: s2 :: s3 :: s4 :: w :: tl) (.int x :: st) (M, R, L) (zlet x f) E := by
  subst hp; exact zG_step hd (by first | rfl | simp [zstep, zst]) (k x)
theorem zG_as5 {α : Type} {sc : ZS} {d y pc p : Nat} {M : ZI} {R : ZF} {L : ZY} {E : α → Option Value → ZH → Prop} {o : Option α} {s0 s1 s2 s3 s4 : Slot} {tl : List Slot} {st : List Value} {w : Slot} {x : Nat} (hd : zdec y pc = some (.astore 5, 2)) (hp : pc + 2 = p) (k : zG sc d y p (s0 :: s1 :: s2 :: s3 :: s4 :: .val (.ref x) :: tl) st (M, R, L) o E) : zG sc d y pc (s0 :: s1 :: s2 :: s3 :: s4 :: w :: tl) (.ref x :: st) (M, R, L) o E := by
  subst hp; exact zG_step hd (by first | rfl | simp [zstep, zst]) k
theorem zG_az5 {α : Type} {sc : ZS} {d y pc p : Nat} {M : ZI} {R : ZF} {L : ZY} {E : α → Option Value → ZH → Prop} {o : Option α} {s0 s1 s2 s3 s4 : Slot} {tl : List Slot} {st : List Value} {w : Slot} (hd : zdec y pc = some (.astore 5, 2)) (hp : pc + 2 = p) (k : zG sc d y p (s0 :: s1 :: s2 :: s3 :: s4 :: .val .null :: tl) st (M, R, L) o E) : zG sc d y pc (s0 :: s1 :: s2 :: s3 :: s4 :: w :: tl) (.null :: st) (M, R, L) o E := by
  subst hp; exact zG_step hd (by first | rfl | simp [zstep, zst]) k
theorem zG_aq5 {α : Type} {sc : ZS} {d y pc p : Nat} {M : ZI} {R : ZF} {L : ZY} {E : α → Option Value → ZH → Prop} {o : Option α} {s0 s1 s2 s3 s4 : Slot} {tl : List Slot} {st : List Value} {w : Slot} {x : Option Nat} (hd : zdec y pc = some (.astore 5, 2)) (hp : pc + 2 = p) (k : zG sc d y p (s0 :: s1 :: s2 :: s3 :: s4 :: .val (va_rf x) :: tl) st (M, R, L) o E) : zG sc d y pc (s0 :: s1 :: s2 :: s3 :: s4 :: w :: tl) (va_rf x :: st) (M, R, L) o E := by
  cases x with
  | none => exact zG_az5 hd hp k
  | some r => exact zG_as5 hd hp k
theorem zG_ii5 {α : Type} {sc : ZS} {d y pc p : Nat} {M : ZI} {R : ZF} {L : ZY} {E : α → Option Value → ZH → Prop} {o : Option α} {s0 s1 s2 s3 s4 : Slot} {tl : List Slot} {st : List Value} {x c : Int32} {n : Int} (hd : zdec y pc = some (.iinc 5 n, 3)) (hc : Int32.ofInt n = c) (hp : pc + 3 = p) (k : zG sc d y p (s0 :: s1 :: s2 :: s3 :: s4 :: .val (.int (x + c)) :: tl) st (M, R, L) o E) : zG sc d y pc (s0 :: s1 :: s2 :: s3 :: s4 :: .val (.int x) :: tl) st (M, R, L) o E := by
  subst hp; subst hc; exact zG_step hd (by simp [zstep]) k
theorem zG_il6 {α : Type} {sc : ZS} {d y pc p : Nat} {M : ZI} {R : ZF} {L : ZY} {E : α → Option Value → ZH → Prop} {o : Option α} {s0 s1 s2 s3 s4 s5 : Slot} {tl : List Slot} {st : List Value} {x : Int32} (hd : zdec y pc = some (.iload 6, 2)) (hp : pc + 2 = p) (k : zG sc d y p (s0 :: s1 :: s2 :: s3 :: s4 :: s5 :: .val (.int x) :: tl) (.int x :: st) (M, R, L) o E) : zG sc d y pc (s0 :: s1 :: s2 :: s3 :: s4 :: s5 :: .val (.int x) :: tl) st (M, R, L) o E := by
  subst hp; exact zG_step hd (by first | rfl | simp [zstep, zld]) k
theorem zG_al6 {α : Type} {sc : ZS} {d y pc p : Nat} {M : ZI} {R : ZF} {L : ZY} {E : α → Option Value → ZH → Prop} {o : Option α} {s0 s1 s2 s3 s4 s5 : Slot} {tl : List Slot} {st : List Value} {x : Nat} (hd : zdec y pc = some (.aload 6, 2)) (hp : pc + 2 = p) (k : zG sc d y p (s0 :: s1 :: s2 :: s3 :: s4 :: s5 :: .val (.ref x) :: tl) (.ref x :: st) (M, R, L) o E) : zG sc d y pc (s0 :: s1 :: s2 :: s3 :: s4 :: s5 :: .val (.ref x) :: tl) st (M, R, L) o E := by
  subst hp; exact zG_step hd (by first | rfl | simp [zstep, zld]) k
theorem zG_an6 {α : Type} {sc : ZS} {d y pc p : Nat} {M : ZI} {R : ZF} {L : ZY} {E : α → Option Value → ZH → Prop} {o : Option α} {s0 s1 s2 s3 s4 s5 : Slot} {tl : List Slot} {st : List Value} (hd : zdec y pc = some (.aload 6, 2)) (hp : pc + 2 = p) (k : zG sc d y p (s0 :: s1 :: s2 :: s3 :: s4 :: s5 :: .val .null :: tl) (.null :: st) (M, R, L) o E) : zG sc d y pc (s0 :: s1 :: s2 :: s3 :: s4 :: s5 :: .val .null :: tl) st (M, R, L) o E := by
  subst hp; exact zG_step hd (by first | rfl | simp [zstep, zld]) k
theorem zG_ao6 {α : Type} {sc : ZS} {d y pc p : Nat} {M : ZI} {R : ZF} {L : ZY} {E : α → Option Value → ZH → Prop} {o : Option α} {s0 s1 s2 s3 s4 s5 : Slot} {tl : List Slot} {st : List Value} {x : Option Nat} (hd : zdec y pc = some (.aload 6, 2)) (hp : pc + 2 = p) (k : zG sc d y p (s0 :: s1 :: s2 :: s3 :: s4 :: s5 :: .val (va_rf x) :: tl) (va_rf x :: st) (M, R, L) o E) : zG sc d y pc (s0 :: s1 :: s2 :: s3 :: s4 :: s5 :: .val (va_rf x) :: tl) st (M, R, L) o E := by
  cases x with
  | none => exact zG_an6 hd hp k
  | some r => exact zG_al6 hd hp k
theorem zG_is6 {α : Type} {sc : ZS} {d y pc p : Nat} {M : ZI} {R : ZF} {L : ZY} {E : α → Option Value → ZH → Prop} {o : Option α} {s0 s1 s2 s3 s4 s5 : Slot} {tl : List Slot} {st : List Value} {w : Slot} {x : Int32} (hd : zdec y pc = some (.istore 6, 2)) (hp : pc + 2 = p) (k : zG sc d y p (s0 :: s1 :: s2 :: s3 :: s4 :: s5 :: .val (.int x) :: tl) st (M, R, L) o E) : zG sc d y pc (s0 :: s1 :: s2 :: s3 :: s4 :: s5 :: w :: tl) (.int x :: st) (M, R, L) o E := by
  subst hp; exact zG_step hd (by first | rfl | simp [zstep, zst]) k
theorem zG_js6 {α : Type} {sc : ZS} {d y pc p : Nat} {M : ZI} {R : ZF} {L : ZY} {E : α → Option Value → ZH → Prop} {s0 s1 s2 s3 s4 s5 : Slot} {tl : List Slot} {st : List Value} {f : Int32 → Option α} {w : Slot} {x : Int32} (hd : zdec y pc = some (.istore 6, 2)) (hp : pc + 2 = p) (k : ∀ x, zG sc d y p (s0 :: s1 :: s2 :: s3 :: s4 :: s5 :: .val (.int x) :: tl) st (M, R, L) (f x) E) : zG sc d y pc (s0 :: s1 :: s2 :: s3 :: s4 :: s5 :: w :: tl) (.int x :: st) (M, R, L) (zlet x f) E := by
  subst hp; exact zG_step hd (by first | rfl | simp [zstep, zst]) (k x)
theorem zG_as6 {α : Type} {sc : ZS} {d y pc p : Nat} {M : ZI} {R : ZF} {L : ZY} {E : α → Option Value → ZH → Prop} {o : Option α} {s0 s1 s2 s3 s4 s5 : Slot} {tl : List Slot} {st : List Value} {w : Slot} {x : Nat} (hd : zdec y pc = some (.astore 6, 2)) (hp : pc + 2 = p) (k : zG sc d y p (s0 :: s1 :: s2 :: s3 :: s4 :: s5 :: .val (.ref x) :: tl) st (M, R, L) o E) : zG sc d y pc (s0 :: s1 :: s2 :: s3 :: s4 :: s5 :: w :: tl) (.ref x :: st) (M, R, L) o E := by
  subst hp; exact zG_step hd (by first | rfl | simp [zstep, zst]) k
theorem zG_az6 {α : Type} {sc : ZS} {d y pc p : Nat} {M : ZI} {R : ZF} {L : ZY} {E : α → Option Value → ZH → Prop} {o : Option α} {s0 s1 s2 s3 s4 s5 : Slot} {tl : List Slot} {st : List Value} {w : Slot} (hd : zdec y pc = some (.astore 6, 2)) (hp : pc + 2 = p) (k : zG sc d y p (s0 :: s1 :: s2 :: s3 :: s4 :: s5 :: .val .null :: tl) st (M, R, L) o E) : zG sc d y pc (s0 :: s1 :: s2 :: s3 :: s4 :: s5 :: w :: tl) (.null :: st) (M, R, L) o E := by
  subst hp; exact zG_step hd (by first | rfl | simp [zstep, zst]) k
theorem zG_aq6 {α : Type} {sc : ZS} {d y pc p : Nat} {M : ZI} {R : ZF} {L : ZY} {E : α → Option Value → ZH → Prop} {o : Option α} {s0 s1 s2 s3 s4 s5 : Slot} {tl : List Slot} {st : List Value} {w : Slot} {x : Option Nat} (hd : zdec y pc = some (.astore 6, 2)) (hp : pc + 2 = p) (k : zG sc d y p (s0 :: s1 :: s2 :: s3 :: s4 :: s5 :: .val (va_rf x) :: tl) st (M, R, L) o E) : zG sc d y pc (s0 :: s1 :: s2 :: s3 :: s4 :: s5 :: w :: tl) (va_rf x :: st) (M, R, L) o E := by
  cases x with
  | none => exact zG_az6 hd hp k
  | some r => exact zG_as6 hd hp k
theorem zG_ii6 {α : Type} {sc : ZS} {d y pc p : Nat} {M : ZI} {R : ZF} {L : ZY} {E : α → Option Value → ZH → Prop} {o : Option α} {s0 s1 s2 s3 s4 s5 : Slot} {tl : List Slot} {st : List Value} {x c : Int32} {n : Int} (hd : zdec y pc = some (.iinc 6 n, 3)) (hc : Int32.ofInt n = c) (hp : pc + 3 = p) (k : zG sc d y p (s0 :: s1 :: s2 :: s3 :: s4 :: s5 :: .val (.int (x + c)) :: tl) st (M, R, L) o E) : zG sc d y pc (s0 :: s1 :: s2 :: s3 :: s4 :: s5 :: .val (.int x) :: tl) st (M, R, L) o E := by
  subst hp; subst hc; exact zG_step hd (by simp [zstep]) k
theorem zG_il7 {α : Type} {sc : ZS} {d y pc p : Nat} {M : ZI} {R : ZF} {L : ZY} {E : α → Option Value → ZH → Prop} {o : Option α} {s0 s1 s2 s3 s4 s5 s6 : Slot} {tl : List Slot} {st : List Value} {x : Int32} (hd : zdec y pc = some (.iload 7, 2)) (hp : pc + 2 = p) (k : zG sc d y p (s0 :: s1 :: s2 :: s3 :: s4 :: s5 :: s6 :: .val (.int x) :: tl) (.int x :: st) (M, R, L) o E) : zG sc d y pc (s0 :: s1 :: s2 :: s3 :: s4 :: s5 :: s6 :: .val (.int x) :: tl) st (M, R, L) o E := by
  subst hp; exact zG_step hd (by first | rfl | simp [zstep, zld]) k
theorem zG_al7 {α : Type} {sc : ZS} {d y pc p : Nat} {M : ZI} {R : ZF} {L : ZY} {E : α → Option Value → ZH → Prop} {o : Option α} {s0 s1 s2 s3 s4 s5 s6 : Slot} {tl : List Slot} {st : List Value} {x : Nat} (hd : zdec y pc = some (.aload 7, 2)) (hp : pc + 2 = p) (k : zG sc d y p (s0 :: s1 :: s2 :: s3 :: s4 :: s5 :: s6 :: .val (.ref x) :: tl) (.ref x :: st) (M, R, L) o E) : zG sc d y pc (s0 :: s1 :: s2 :: s3 :: s4 :: s5 :: s6 :: .val (.ref x) :: tl) st (M, R, L) o E := by
  subst hp; exact zG_step hd (by first | rfl | simp [zstep, zld]) k
theorem zG_an7 {α : Type} {sc : ZS} {d y pc p : Nat} {M : ZI} {R : ZF} {L : ZY} {E : α → Option Value → ZH → Prop} {o : Option α} {s0 s1 s2 s3 s4 s5 s6 : Slot} {tl : List Slot} {st : List Value} (hd : zdec y pc = some (.aload 7, 2)) (hp : pc + 2 = p) (k : zG sc d y p (s0 :: s1 :: s2 :: s3 :: s4 :: s5 :: s6 :: .val .null :: tl) (.null :: st) (M, R, L) o E) : zG sc d y pc (s0 :: s1 :: s2 :: s3 :: s4 :: s5 :: s6 :: .val .null :: tl) st (M, R, L) o E := by
  subst hp; exact zG_step hd (by first | rfl | simp [zstep, zld]) k
theorem zG_ao7 {α : Type} {sc : ZS} {d y pc p : Nat} {M : ZI} {R : ZF} {L : ZY} {E : α → Option Value → ZH → Prop} {o : Option α} {s0 s1 s2 s3 s4 s5 s6 : Slot} {tl : List Slot} {st : List Value} {x : Option Nat} (hd : zdec y pc = some (.aload 7, 2)) (hp : pc + 2 = p) (k : zG sc d y p (s0 :: s1 :: s2 :: s3 :: s4 :: s5 :: s6 :: .val (va_rf x) :: tl) (va_rf x :: st) (M, R, L) o E) : zG sc d y pc (s0 :: s1 :: s2 :: s3 :: s4 :: s5 :: s6 :: .val (va_rf x) :: tl) st (M, R, L) o E := by
  cases x with
  | none => exact zG_an7 hd hp k
  | some r => exact zG_al7 hd hp k
theorem zG_is7 {α : Type} {sc : ZS} {d y pc p : Nat} {M : ZI} {R : ZF} {L : ZY} {E : α → Option Value → ZH → Prop} {o : Option α} {s0 s1 s2 s3 s4 s5 s6 : Slot} {tl : List Slot} {st : List Value} {w : Slot} {x : Int32} (hd : zdec y pc = some (.istore 7, 2)) (hp : pc + 2 = p) (k : zG sc d y p (s0 :: s1 :: s2 :: s3 :: s4 :: s5 :: s6 :: .val (.int x) :: tl) st (M, R, L) o E) : zG sc d y pc (s0 :: s1 :: s2 :: s3 :: s4 :: s5 :: s6 :: w :: tl) (.int x :: st) (M, R, L) o E := by
  subst hp; exact zG_step hd (by first | rfl | simp [zstep, zst]) k
theorem zG_js7 {α : Type} {sc : ZS} {d y pc p : Nat} {M : ZI} {R : ZF} {L : ZY} {E : α → Option Value → ZH → Prop} {s0 s1 s2 s3 s4 s5 s6 : Slot} {tl : List Slot} {st : List Value} {f : Int32 → Option α} {w : Slot} {x : Int32} (hd : zdec y pc = some (.istore 7, 2)) (hp : pc + 2 = p) (k : ∀ x, zG sc d y p (s0 :: s1 :: s2 :: s3 :: s4 :: s5 :: s6 :: .val (.int x) :: tl) st (M, R, L) (f x) E) : zG sc d y pc (s0 :: s1 :: s2 :: s3 :: s4 :: s5 :: s6 :: w :: tl) (.int x :: st) (M, R, L) (zlet x f) E := by
  subst hp; exact zG_step hd (by first | rfl | simp [zstep, zst]) (k x)
theorem zG_as7 {α : Type} {sc : ZS} {d y pc p : Nat} {M : ZI} {R : ZF} {L : ZY} {E : α → Option Value → ZH → Prop} {o : Option α} {s0 s1 s2 s3 s4 s5 s6 : Slot} {tl : List Slot} {st : List Value} {w : Slot} {x : Nat} (hd : zdec y pc = some (.astore 7, 2)) (hp : pc + 2 = p) (k : zG sc d y p (s0 :: s1 :: s2 :: s3 :: s4 :: s5 :: s6 :: .val (.ref x) :: tl) st (M, R, L) o E) : zG sc d y pc (s0 :: s1 :: s2 :: s3 :: s4 :: s5 :: s6 :: w :: tl) (.ref x :: st) (M, R, L) o E := by
  subst hp; exact zG_step hd (by first | rfl | simp [zstep, zst]) k
theorem zG_az7 {α : Type} {sc : ZS} {d y pc p : Nat} {M : ZI} {R : ZF} {L : ZY} {E : α → Option Value → ZH → Prop} {o : Option α} {s0 s1 s2 s3 s4 s5 s6 : Slot} {tl : List Slot} {st : List Value} {w : Slot} (hd : zdec y pc = some (.astore 7, 2)) (hp : pc + 2 = p) (k : zG sc d y p (s0 :: s1 :: s2 :: s3 :: s4 :: s5 :: s6 :: .val .null :: tl) st (M, R, L) o E) : zG sc d y pc (s0 :: s1 :: s2 :: s3 :: s4 :: s5 :: s6 :: w :: tl) (.null :: st) (M, R, L) o E := by
  subst hp; exact zG_step hd (by first | rfl | simp [zstep, zst]) k
theorem zG_aq7 {α : Type} {sc : ZS} {d y pc p : Nat} {M : ZI} {R : ZF} {L : ZY} {E : α → Option Value → ZH → Prop} {o : Option α} {s0 s1 s2 s3 s4 s5 s6 : Slot} {tl : List Slot} {st : List Value} {w : Slot} {x : Option Nat} (hd : zdec y pc = some (.astore 7, 2)) (hp : pc + 2 = p) (k : zG sc d y p (s0 :: s1 :: s2 :: s3 :: s4 :: s5 :: s6 :: .val (va_rf x) :: tl) st (M, R, L) o E) : zG sc d y pc (s0 :: s1 :: s2 :: s3 :: s4 :: s5 :: s6 :: w :: tl) (va_rf x :: st) (M, R, L) o E := by
  cases x with
  | none => exact zG_az7 hd hp k
  | some r => exact zG_as7 hd hp k
theorem zG_ii7 {α : Type} {sc : ZS} {d y pc p : Nat} {M : ZI} {R : ZF} {L : ZY} {E : α → Option Value → ZH → Prop} {o : Option α} {s0 s1 s2 s3 s4 s5 s6 : Slot} {tl : List Slot} {st : List Value} {x c : Int32} {n : Int} (hd : zdec y pc = some (.iinc 7 n, 3)) (hc : Int32.ofInt n = c) (hp : pc + 3 = p) (k : zG sc d y p (s0 :: s1 :: s2 :: s3 :: s4 :: s5 :: s6 :: .val (.int (x + c)) :: tl) st (M, R, L) o E) : zG sc d y pc (s0 :: s1 :: s2 :: s3 :: s4 :: s5 :: s6 :: .val (.int x) :: tl) st (M, R, L) o E := by
  subst hp; subst hc; exact zG_step hd (by simp [zstep]) k
theorem zG_il8 {α : Type} {sc : ZS} {d y pc p : Nat} {M : ZI} {R : ZF} {L : ZY} {E : α → Option Value → ZH → Prop} {o : Option α} {s0 s1 s2 s3 s4 s5 s6 s7 : Slot} {tl : List Slot} {st : List Value} {x : Int32} (hd : zdec y pc = some (.iload 8, 2)) (hp : pc + 2 = p) (k : zG sc d y p (s0 :: s1 :: s2 :: s3 :: s4 :: s5 :: s6 :: s7 :: .val (.int x) :: tl) (.int x :: st) (M, R, L) o E) : zG sc d y pc (s0 :: s1 :: s2 :: s3 :: s4 :: s5 :: s6 :: s7 :: .val (.int x) :: tl) st (M, R, L) o E := by
  subst hp; exact zG_step hd (by first | rfl | simp [zstep, zld]) k
theorem zG_al8 {α : Type} {sc : ZS} {d y pc p : Nat} {M : ZI} {R : ZF} {L : ZY} {E : α → Option Value → ZH → Prop} {o : Option α} {s0 s1 s2 s3 s4 s5 s6 s7 : Slot} {tl : List Slot} {st : List Value} {x : Nat} (hd : zdec y pc = some (.aload 8, 2)) (hp : pc + 2 = p) (k : zG sc d y p (s0 :: s1 :: s2 :: s3 :: s4 :: s5 :: s6 :: s7 :: .val (.ref x) :: tl) (.ref x :: st) (M, R, L) o E) : zG sc d y pc (s0 :: s1 :: s2 :: s3 :: s4 :: s5 :: s6 :: s7 :: .val (.ref x) :: tl) st (M, R, L) o E := by
  subst hp; exact zG_step hd (by first | rfl | simp [zstep, zld]) k
theorem zG_an8 {α : Type} {sc : ZS} {d y pc p : Nat} {M : ZI} {R : ZF} {L : ZY} {E : α → Option Value → ZH → Prop} {o : Option α} {s0 s1 s2 s3 s4 s5 s6 s7 : Slot} {tl : List Slot} {st : List Value} (hd : zdec y pc = some (.aload 8, 2)) (hp : pc + 2 = p) (k : zG sc d y p (s0 :: s1 :: s2 :: s3 :: s4 :: s5 :: s6 :: s7 :: .val .null :: tl) (.null :: st) (M, R, L) o E) : zG sc d y pc (s0 :: s1 :: s2 :: s3 :: s4 :: s5 :: s6 :: s7 :: .val .null :: tl) st (M, R, L) o E := by
  subst hp; exact zG_step hd (by first | rfl | simp [zstep, zld]) k
theorem zG_ao8 {α : Type} {sc : ZS} {d y pc p : Nat} {M : ZI} {R : ZF} {L : ZY} {E : α → Option Value → ZH → Prop} {o : Option α} {s0 s1 s2 s3 s4 s5 s6 s7 : Slot} {tl : List Slot} {st : List Value} {x : Option Nat} (hd : zdec y pc = some (.aload 8, 2)) (hp : pc + 2 = p) (k : zG sc d y p (s0 :: s1 :: s2 :: s3 :: s4 :: s5 :: s6 :: s7 :: .val (va_rf x) :: tl) (va_rf x :: st) (M, R, L) o E) : zG sc d y pc (s0 :: s1 :: s2 :: s3 :: s4 :: s5 :: s6 :: s7 :: .val (va_rf x) :: tl) st (M, R, L) o E := by
  cases x with
  | none => exact zG_an8 hd hp k
  | some r => exact zG_al8 hd hp k
theorem zG_is8 {α : Type} {sc : ZS} {d y pc p : Nat} {M : ZI} {R : ZF} {L : ZY} {E : α → Option Value → ZH → Prop} {o : Option α} {s0 s1 s2 s3 s4 s5 s6 s7 : Slot} {tl : List Slot} {st : List Value} {w : Slot} {x : Int32} (hd : zdec y pc = some (.istore 8, 2)) (hp : pc + 2 = p) (k : zG sc d y p (s0 :: s1 :: s2 :: s3 :: s4 :: s5 :: s6 :: s7 :: .val (.int x) :: tl) st (M, R, L) o E) : zG sc d y pc (s0 :: s1 :: s2 :: s3 :: s4 :: s5 :: s6 :: s7 :: w :: tl) (.int x :: st) (M, R, L) o E := by
  subst hp; exact zG_step hd (by first | rfl | simp [zstep, zst]) k
theorem zG_js8 {α : Type} {sc : ZS} {d y pc p : Nat} {M : ZI} {R : ZF} {L : ZY} {E : α → Option Value → ZH → Prop} {s0 s1 s2 s3 s4 s5 s6 s7 : Slot} {tl : List Slot} {st : List Value} {f : Int32 → Option α} {w : Slot} {x : Int32} (hd : zdec y pc = some (.istore 8, 2)) (hp : pc + 2 = p) (k : ∀ x, zG sc d y p (s0 :: s1 :: s2 :: s3 :: s4 :: s5 :: s6 :: s7 :: .val (.int x) :: tl) st (M, R, L) (f x) E) : zG sc d y pc (s0 :: s1 :: s2 :: s3 :: s4 :: s5 :: s6 :: s7 :: w :: tl) (.int x :: st) (M, R, L) (zlet x f) E := by
  subst hp; exact zG_step hd (by first | rfl | simp [zstep, zst]) (k x)
theorem zG_as8 {α : Type} {sc : ZS} {d y pc p : Nat} {M : ZI} {R : ZF} {L : ZY} {E : α → Option Value → ZH → Prop} {o : Option α} {s0 s1 s2 s3 s4 s5 s6 s7 : Slot} {tl : List Slot} {st : List Value} {w : Slot} {x : Nat} (hd : zdec y pc = some (.astore 8, 2)) (hp : pc + 2 = p) (k : zG sc d y p (s0 :: s1 :: s2 :: s3 :: s4 :: s5 :: s6 :: s7 :: .val (.ref x) :: tl) st (M, R, L) o E) : zG sc d y pc (s0 :: s1 :: s2 :: s3 :: s4 :: s5 :: s6 :: s7 :: w :: tl) (.ref x :: st) (M, R, L) o E := by
  subst hp; exact zG_step hd (by first | rfl | simp [zstep, zst]) k
theorem zG_az8 {α : Type} {sc : ZS} {d y pc p : Nat} {M : ZI} {R : ZF} {L : ZY} {E : α → Option Value → ZH → Prop} {o : Option α} {s0 s1 s2 s3 s4 s5 s6 s7 : Slot} {tl : List Slot} {st : List Value} {w : Slot} (hd : zdec y pc = some (.astore 8, 2)) (hp : pc + 2 = p) (k : zG sc d y p (s0 :: s1 :: s2 :: s3 :: s4 :: s5 :: s6 :: s7 :: .val .null :: tl) st (M, R, L) o E) : zG sc d y pc (s0 :: s1 :: s2 :: s3 :: s4 :: s5 :: s6 :: s7 :: w :: tl) (.null :: st) (M, R, L) o E := by
  subst hp; exact zG_step hd (by first | rfl | simp [zstep, zst]) k
theorem zG_aq8 {α : Type} {sc : ZS} {d y pc p : Nat} {M : ZI} {R : ZF} {L : ZY} {E : α → Option Value → ZH → Prop} {o : Option α} {s0 s1 s2 s3 s4 s5 s6 s7 : Slot} {tl : List Slot} {st : List Value} {w : Slot} {x : Option Nat} (hd : zdec y pc = some (.astore 8, 2)) (hp : pc + 2 = p) (k : zG sc d y p (s0 :: s1 :: s2 :: s3 :: s4 :: s5 :: s6 :: s7 :: .val (va_rf x) :: tl) st (M, R, L) o E) : zG sc d y pc (s0 :: s1 :: s2 :: s3 :: s4 :: s5 :: s6 :: s7 :: w :: tl) (va_rf x :: st) (M, R, L) o E := by
  cases x with
  | none => exact zG_az8 hd hp k
  | some r => exact zG_as8 hd hp k
theorem zG_ii8 {α : Type} {sc : ZS} {d y pc p : Nat} {M : ZI} {R : ZF} {L : ZY} {E : α → Option Value → ZH → Prop} {o : Option α} {s0 s1 s2 s3 s4 s5 s6 s7 : Slot} {tl : List Slot} {st : List Value} {x c : Int32} {n : Int} (hd : zdec y pc = some (.iinc 8 n, 3)) (hc : Int32.ofInt n = c) (hp : pc + 3 = p) (k : zG sc d y p (s0 :: s1 :: s2 :: s3 :: s4 :: s5 :: s6 :: s7 :: .val (.int (x + c)) :: tl) st (M, R, L) o E) : zG sc d y pc (s0 :: s1 :: s2 :: s3 :: s4 :: s5 :: s6 :: s7 :: .val (.int x) :: tl) st (M, R, L) o E := by
  subst hp; subst hc; exact zG_step hd (by simp [zstep]) k
theorem zG_il9 {α : Type} {sc : ZS} {d y pc p : Nat} {M : ZI} {R : ZF} {L : ZY} {E : α → Option Value → ZH → Prop} {o : Option α} {s0 s1 s2 s3 s4 s5 s6 s7 s8 : Slot} {tl : List Slot} {st : List Value} {x : Int32} (hd : zdec y pc = some (.iload 9, 2)) (hp : pc + 2 = p) (k : zG sc d y p (s0 :: s1 :: s2 :: s3 :: s4 :: s5 :: s6 :: s7 :: s8 :: .val (.int x) :: tl) (.int x :: st) (M, R, L) o E) : zG sc d y pc (s0 :: s1 :: s2 :: s3 :: s4 :: s5 :: s6 :: s7 :: s8 :: .val (.int x) :: tl) st (M, R, L) o E := by
  subst hp; exact zG_step hd (by first | rfl | simp [zstep, zld]) k
theorem zG_al9 {α : Type} {sc : ZS} {d y pc p : Nat} {M : ZI} {R : ZF} {L : ZY} {E : α → Option Value → ZH → Prop} {o : Option α} {s0 s1 s2 s3 s4 s5 s6 s7 s8 : Slot} {tl : List Slot} {st : List Value} {x : Nat} (hd : zdec y pc = some (.aload 9, 2)) (hp : pc + 2 = p) (k : zG sc d y p (s0 :: s1 :: s2 :: s3 :: s4 :: s5 :: s6 :: s7 :: s8 :: .val (.ref x) :: tl) (.ref x :: st) (M, R, L) o E) : zG sc d y pc (s0 :: s1 :: s2 :: s3 :: s4 :: s5 :: s6 :: s7 :: s8 :: .val (.ref x) :: tl) st (M, R, L) o E := by
  subst hp; exact zG_step hd (by first | rfl | simp [zstep, zld]) k
theorem zG_an9 {α : Type} {sc : ZS} {d y pc p : Nat} {M : ZI} {R : ZF} {L : ZY} {E : α → Option Value → ZH → Prop} {o : Option α} {s0 s1 s2 s3 s4 s5 s6 s7 s8 : Slot} {tl : List Slot} {st : List Value} (hd : zdec y pc = some (.aload 9, 2)) (hp : pc + 2 = p) (k : zG sc d y p (s0 :: s1 :: s2 :: s3 :: s4 :: s5 :: s6 :: s7 :: s8 :: .val .null :: tl) (.null :: st) (M, R, L) o E) : zG sc d y pc (s0 :: s1 :: s2 :: s3 :: s4 :: s5 :: s6 :: s7 :: s8 :: .val .null :: tl) st (M, R, L) o E := by
  subst hp; exact zG_step hd (by first | rfl | simp [zstep, zld]) k
theorem zG_ao9 {α : Type} {sc : ZS} {d y pc p : Nat} {M : ZI} {R : ZF} {L : ZY} {E : α → Option Value → ZH → Prop} {o : Option α} {s0 s1 s2 s3 s4 s5 s6 s7 s8 : Slot} {tl : List Slot} {st : List Value} {x : Option Nat} (hd : zdec y pc = some (.aload 9, 2)) (hp : pc + 2 = p) (k : zG sc d y p (s0 :: s1 :: s2 :: s3 :: s4 :: s5 :: s6 :: s7 :: s8 :: .val (va_rf x) :: tl) (va_rf x :: st) (M, R, L) o E) : zG sc d y pc (s0 :: s1 :: s2 :: s3 :: s4 :: s5 :: s6 :: s7 :: s8 :: .val (va_rf x) :: tl) st (M, R, L) o E := by
  cases x with
  | none => exact zG_an9 hd hp k
  | some r => exact zG_al9 hd hp k
theorem zG_is9 {α : Type} {sc : ZS} {d y pc p : Nat} {M : ZI} {R : ZF} {L : ZY} {E : α → Option Value → ZH → Prop} {o : Option α} {s0 s1 s2 s3 s4 s5 s6 s7 s8 : Slot} {tl : List Slot} {st : List Value} {w : Slot} {x : Int32} (hd : zdec y pc = some (.istore 9, 2)) (hp : pc + 2 = p) (k : zG sc d y p (s0 :: s1 :: s2 :: s3 :: s4 :: s5 :: s6 :: s7 :: s8 :: .val (.int x) :: tl) st (M, R, L) o E) : zG sc d y pc (s0 :: s1 :: s2 :: s3 :: s4 :: s5 :: s6 :: s7 :: s8 :: w :: tl) (.int x :: st) (M, R, L) o E := by
  subst hp; exact zG_step hd (by first | rfl | simp [zstep, zst]) k
theorem zG_js9 {α : Type} {sc : ZS} {d y pc p : Nat} {M : ZI} {R : ZF} {L : ZY} {E : α → Option Value → ZH → Prop} {s0 s1 s2 s3 s4 s5 s6 s7 s8 : Slot} {tl : List Slot} {st : List Value} {f : Int32 → Option α} {w : Slot} {x : Int32} (hd : zdec y pc = some (.istore 9, 2)) (hp : pc + 2 = p) (k : ∀ x, zG sc d y p (s0 :: s1 :: s2 :: s3 :: s4 :: s5 :: s6 :: s7 :: s8 :: .val (.int x) :: tl) st (M, R, L) (f x) E) : zG sc d y pc (s0 :: s1 :: s2 :: s3 :: s4 :: s5 :: s6 :: s7 :: s8 :: w :: tl) (.int x :: st) (M, R, L) (zlet x f) E := by
  subst hp; exact zG_step hd (by first | rfl | simp [zstep, zst]) (k x)
theorem zG_as9 {α : Type} {sc : ZS} {d y pc p : Nat} {M : ZI} {R : ZF} {L : ZY} {E : α → Option Value → ZH → Prop} {o : Option α} {s0 s1 s2 s3 s4 s5 s6 s7 s8 : Slot} {tl : List Slot} {st : List Value} {w : Slot} {x : Nat} (hd : zdec y pc = some (.astore 9, 2)) (hp : pc + 2 = p) (k : zG sc d y p (s0 :: s1 :: s2 :: s3 :: s4 :: s5 :: s6 :: s7 :: s8 :: .val (.ref x) :: tl) st (M, R, L) o E) : zG sc d y pc (s0 :: s1 :: s2 :: s3 :: s4 :: s5 :: s6 :: s7 :: s8 :: w :: tl) (.ref x :: st) (M, R, L) o E := by
  subst hp; exact zG_step hd (by first | rfl | simp [zstep, zst]) k
theorem zG_az9 {α : Type} {sc : ZS} {d y pc p : Nat} {M : ZI} {R : ZF} {L : ZY} {E : α → Option Value → ZH → Prop} {o : Option α} {s0 s1 s2 s3 s4 s5 s6 s7 s8 : Slot} {tl : List Slot} {st : List Value} {w : Slot} (hd : zdec y pc = some (.astore 9, 2)) (hp : pc + 2 = p) (k : zG sc d y p (s0 :: s1 :: s2 :: s3 :: s4 :: s5 :: s6 :: s7 :: s8 :: .val .null :: tl) st (M, R, L) o E) : zG sc d y pc (s0 :: s1 :: s2 :: s3 :: s4 :: s5 :: s6 :: s7 :: s8 :: w :: tl) (.null :: st) (M, R, L) o E := by
  subst hp; exact zG_step hd (by first | rfl | simp [zstep, zst]) k
theorem zG_aq9 {α : Type} {sc : ZS} {d y pc p : Nat} {M : ZI} {R : ZF} {L : ZY} {E : α → Option Value → ZH → Prop} {o : Option α} {s0 s1 s2 s3 s4 s5 s6 s7 s8 : Slot} {tl : List Slot} {st : List Value} {w : Slot} {x : Option Nat} (hd : zdec y pc = some (.astore 9, 2)) (hp : pc + 2 = p) (k : zG sc d y p (s0 :: s1 :: s2 :: s3 :: s4 :: s5 :: s6 :: s7 :: s8 :: .val (va_rf x) :: tl) st (M, R, L) o E) : zG sc d y pc (s0 :: s1 :: s2 :: s3 :: s4 :: s5 :: s6 :: s7 :: s8 :: w :: tl) (va_rf x :: st) (M, R, L) o E := by
  cases x with
  | none => exact zG_az9 hd hp k
  | some r => exact zG_as9 hd hp k
theorem zG_ii9 {α : Type} {sc : ZS} {d y pc p : Nat} {M : ZI} {R : ZF} {L : ZY} {E : α → Option Value → ZH → Prop} {o : Option α} {s0 s1 s2 s3 s4 s5 s6 s7 s8 : Slot} {tl : List Slot} {st : List Value} {x c : Int32} {n : Int} (hd : zdec y pc = some (.iinc 9 n, 3)) (hc : Int32.ofInt n = c) (hp : pc + 3 = p) (k : zG sc d y p (s0 :: s1 :: s2 :: s3 :: s4 :: s5 :: s6 :: s7 :: s8 :: .val (.int (x + c)) :: tl) st (M, R, L) o E) : zG sc d y pc (s0 :: s1 :: s2 :: s3 :: s4 :: s5 :: s6 :: s7 :: s8 :: .val (.int x) :: tl) st (M, R, L) o E := by
  subst hp; subst hc; exact zG_step hd (by simp [zstep]) k
theorem zG_il10 {α : Type} {sc : ZS} {d y pc p : Nat} {M : ZI} {R : ZF} {L : ZY} {E : α → Option Value → ZH → Prop} {o : Option α} {s0 s1 s2 s3 s4 s5 s6 s7 s8 s9 : Slot} {tl : List Slot} {st : List Value} {x : Int32} (hd : zdec y pc = some (.iload 10, 2)) (hp : pc + 2 = p) (k : zG sc d y p (s0 :: s1 :: s2 :: s3 :: s4 :: s5 :: s6 :: s7 :: s8 :: s9 :: .val (.int x) :: tl) (.int x :: st) (M, R, L) o E) : zG sc d y pc (s0 :: s1 :: s2 :: s3 :: s4 :: s5 :: s6 :: s7 :: s8 :: s9 :: .val (.int x) :: tl) st (M, R, L) o E := by
  subst hp; exact zG_step hd (by first | rfl | simp [zstep, zld]) k
theorem zG_al10 {α : Type} {sc : ZS} {d y pc p : Nat} {M : ZI} {R : ZF} {L : ZY} {E : α → Option Value → ZH → Prop} {o : Option α} {s0 s1 s2 s3 s4 s5 s6 s7 s8 s9 : Slot} {tl : List Slot} {st : List Value} {x : Nat} (hd : zdec y pc = some (.aload 10, 2)) (hp : pc + 2 = p) (k : zG sc d y p (s0 :: s1 :: s2 :: s3 :: s4 :: s5 :: s6 :: s7 :: s8 :: s9 :: .val (.ref x) :: tl) (.ref x :: st) (M, R, L) o E) : zG sc d y pc (s0 :: s1 :: s2 :: s3 :: s4 :: s5 :: s6 :: s7 :: s8 :: s9 :: .val (.ref x) :: tl) st (M, R, L) o E := by
  subst hp; exact zG_step hd (by first | rfl | simp [zstep, zld]) k
theorem zG_an10 {α : Type} {sc : ZS} {d y pc p : Nat} {M : ZI} {R : ZF} {L : ZY} {E : α → Option Value → ZH → Prop} {o : Option α} {s0 s1 s2 s3 s4 s5 s6 s7 s8 s9 : Slot} {tl : List Slot} {st : List Value} (hd : zdec y pc = some (.aload 10, 2)) (hp : pc + 2 = p) (k : zG sc d y p (s0 :: s1 :: s2 :: s3 :: s4 :: s5 :: s6 :: s7 :: s8 :: s9 :: .val .null :: tl) (.null :: st) (M, R, L) o E) : zG sc d y pc (s0 :: s1 :: s2 :: s3 :: s4 :: s5 :: s6 :: s7 :: s8 :: s9 :: .val .null :: tl) st (M, R, L) o E := by
  subst hp; exact zG_step hd (by first | rfl | simp [zstep, zld]) k
theorem zG_ao10 {α : Type} {sc : ZS} {d y pc p : Nat} {M : ZI} {R : ZF} {L : ZY} {E : α → Option Value → ZH → Prop} {o : Option α} {s0 s1 s2 s3 s4 s5 s6 s7 s8 s9 : Slot} {tl : List Slot} {st : List Value} {x : Option Nat} (hd : zdec y pc = some (.aload 10, 2)) (hp : pc + 2 = p) (k : zG sc d y p (s0 :: s1 :: s2 :: s3 :: s4 :: s5 :: s6 :: s7 :: s8 :: s9 :: .val (va_rf x) :: tl) (va_rf x :: st) (M, R, L) o E) : zG sc d y pc (s0 :: s1 :: s2 :: s3 :: s4 :: s5 :: s6 :: s7 :: s8 :: s9 :: .val (va_rf x) :: tl) st (M, R, L) o E := by
  cases x with
  | none => exact zG_an10 hd hp k
  | some r => exact zG_al10 hd hp k
theorem zG_is10 {α : Type} {sc : ZS} {d y pc p : Nat} {M : ZI} {R : ZF} {L : ZY} {E : α → Option Value → ZH → Prop} {o : Option α} {s0 s1 s2 s3 s4 s5 s6 s7 s8 s9 : Slot} {tl : List Slot} {st : List Value} {w : Slot} {x : Int32} (hd : zdec y pc = some (.istore 10, 2)) (hp : pc + 2 = p) (k : zG sc d y p (s0 :: s1 :: s2 :: s3 :: s4 :: s5 :: s6 :: s7 :: s8 :: s9 :: .val (.int x) :: tl) st (M, R, L) o E) : zG sc d y pc (s0 :: s1 :: s2 :: s3 :: s4 :: s5 :: s6 :: s7 :: s8 :: s9 :: w :: tl) (.int x :: st) (M, R, L) o E := by
  subst hp; exact zG_step hd (by first | rfl | simp [zstep, zst]) k
theorem zG_js10 {α : Type} {sc : ZS} {d y pc p : Nat} {M : ZI} {R : ZF} {L : ZY} {E : α → Option Value → ZH → Prop} {s0 s1 s2 s3 s4 s5 s6 s7 s8 s9 : Slot} {tl : List Slot} {st : List Value} {f : Int32 → Option α} {w : Slot} {x : Int32} (hd : zdec y pc = some (.istore 10, 2)) (hp : pc + 2 = p) (k : ∀ x, zG sc d y p (s0 :: s1 :: s2 :: s3 :: s4 :: s5 :: s6 :: s7 :: s8 :: s9 :: .val (.int x) :: tl) st (M, R, L) (f x) E) : zG sc d y pc (s0 :: s1 :: s2 :: s3 :: s4 :: s5 :: s6 :: s7 :: s8 :: s9 :: w :: tl) (.int x :: st) (M, R, L) (zlet x f) E := by
  subst hp; exact zG_step hd (by first | rfl | simp [zstep, zst]) (k x)
theorem zG_as10 {α : Type} {sc : ZS} {d y pc p : Nat} {M : ZI} {R : ZF} {L : ZY} {E : α → Option Value → ZH → Prop} {o : Option α} {s0 s1 s2 s3 s4 s5 s6 s7 s8 s9 : Slot} {tl : List Slot} {st : List Value} {w : Slot} {x : Nat} (hd : zdec y pc = some (.astore 10, 2)) (hp : pc + 2 = p) (k : zG sc d y p (s0 :: s1 :: s2 :: s3 :: s4 :: s5 :: s6 :: s7 :: s8 :: s9 :: .val (.ref x) :: tl) st (M, R, L) o E) : zG sc d y pc (s0 :: s1 :: s2 :: s3 :: s4 :: s5 :: s6 :: s7 :: s8 :: s9 :: w :: tl) (.ref x :: st) (M, R, L) o E := by
  subst hp; exact zG_step hd (by first | rfl | simp [zstep, zst]) k
theorem zG_az10 {α : Type} {sc : ZS} {d y pc p : Nat} {M : ZI} {R : ZF} {L : ZY} {E : α → Option Value → ZH → Prop} {o : Option α} {s0 s1 s2 s3 s4 s5 s6 s7 s8 s9 : Slot} {tl : List Slot} {st : List Value} {w : Slot} (hd : zdec y pc = some (.astore 10, 2)) (hp : pc + 2 = p) (k : zG sc d y p (s0 :: s1 :: s2 :: s3 :: s4 :: s5 :: s6 :: s7 :: s8 :: s9 :: .val .null :: tl) st (M, R, L) o E) : zG sc d y pc (s0 :: s1 :: s2 :: s3 :: s4 :: s5 :: s6 :: s7 :: s8 :: s9 :: w :: tl) (.null :: st) (M, R, L) o E := by
  subst hp; exact zG_step hd (by first | rfl | simp [zstep, zst]) k
theorem zG_aq10 {α : Type} {sc : ZS} {d y pc p : Nat} {M : ZI} {R : ZF} {L : ZY} {E : α → Option Value → ZH → Prop} {o : Option α} {s0 s1 s2 s3 s4 s5 s6 s7 s8 s9 : Slot} {tl : List Slot} {st : List Value} {w : Slot} {x : Option Nat} (hd : zdec y pc = some (.astore 10, 2)) (hp : pc + 2 = p) (k : zG sc d y p (s0 :: s1 :: s2 :: s3 :: s4 :: s5 :: s6 :: s7 :: s8 :: s9 :: .val (va_rf x) :: tl) st (M, R, L) o E) : zG sc d y pc (s0 :: s1 :: s2 :: s3 :: s4 :: s5 :: s6 :: s7 :: s8 :: s9 :: w :: tl) (va_rf x :: st) (M, R, L) o E := by
  cases x with
  | none => exact zG_az10 hd hp k
  | some r => exact zG_as10 hd hp k
theorem zG_ii10 {α : Type} {sc : ZS} {d y pc p : Nat} {M : ZI} {R : ZF} {L : ZY} {E : α → Option Value → ZH → Prop} {o : Option α} {s0 s1 s2 s3 s4 s5 s6 s7 s8 s9 : Slot} {tl : List Slot} {st : List Value} {x c : Int32} {n : Int} (hd : zdec y pc = some (.iinc 10 n, 3)) (hc : Int32.ofInt n = c) (hp : pc + 3 = p) (k : zG sc d y p (s0 :: s1 :: s2 :: s3 :: s4 :: s5 :: s6 :: s7 :: s8 :: s9 :: .val (.int (x + c)) :: tl) st (M, R, L) o E) : zG sc d y pc (s0 :: s1 :: s2 :: s3 :: s4 :: s5 :: s6 :: s7 :: s8 :: s9 :: .val (.int x) :: tl) st (M, R, L) o E := by
  subst hp; subst hc; exact zG_step hd (by simp [zstep]) k
theorem zG_il11 {α : Type} {sc : ZS} {d y pc p : Nat} {M : ZI} {R : ZF} {L : ZY} {E : α → Option Value → ZH → Prop} {o : Option α} {s0 s1 s2 s3 s4 s5 s6 s7 s8 s9 s10 : Slot} {tl : List Slot} {st : List Value} {x : Int32} (hd : zdec y pc = some (.iload 11, 2)) (hp : pc + 2 = p) (k : zG sc d y p (s0 :: s1 :: s2 :: s3 :: s4 :: s5 :: s6 :: s7 :: s8 :: s9 :: s10 :: .val (.int x) :: tl) (.int x :: st) (M, R, L) o E) : zG sc d y pc (s0 :: s1 :: s2 :: s3 :: s4 :: s5 :: s6 :: s7 :: s8 :: s9 :: s10 :: .val (.int x) :: tl) st (M, R, L) o E := by
  subst hp; exact zG_step hd (by first | rfl | simp [zstep, zld]) k
theorem zG_al11 {α : Type} {sc : ZS} {d y pc p : Nat} {M : ZI} {R : ZF} {L : ZY} {E : α → Option Value → ZH → Prop} {o : Option α} {s0 s1 s2 s3 s4 s5 s6 s7 s8 s9 s10 : Slot} {tl : List Slot} {st : List Value} {x : Nat} (hd : zdec y pc = some (.aload 11, 2)) (hp : pc + 2 = p) (k : zG sc d y p (s0 :: s1 :: s2 :: s3 :: s4 :: s5 :: s6 :: s7 :: s8 :: s9 :: s10 :: .val (.ref x) :: tl) (.ref x :: st) (M, R, L) o E) : zG sc d y pc (s0 :: s1 :: s2 :: s3 :: s4 :: s5 :: s6 :: s7 :: s8 :: s9 :: s10 :: .val (.ref x) :: tl) st (M, R, L) o E := by
  subst hp; exact zG_step hd (by first | rfl | simp [zstep, zld]) k
theorem zG_an11 {α : Type} {sc : ZS} {d y pc p : Nat} {M : ZI} {R : ZF} {L : ZY} {E : α → Option Value → ZH → Prop} {o : Option α} {s0 s1 s2 s3 s4 s5 s6 s7 s8 s9 s10 : Slot} {tl : List Slot} {st : List Value} (hd : zdec y pc = some (.aload 11, 2)) (hp : pc + 2 = p) (k : zG sc d y p (s0 :: s1 :: s2 :: s3 :: s4 :: s5 :: s6 :: s7 :: s8 :: s9 :: s10 :: .val .null :: tl) (.null :: st) (M, R, L) o E) : zG sc d y pc (s0 :: s1 :: s2 :: s3 :: s4 :: s5 :: s6 :: s7 :: s8 :: s9 :: s10 :: .val .null :: tl) st (M, R, L) o E := by
  subst hp; exact zG_step hd (by first | rfl | simp [zstep, zld]) k
theorem zG_ao11 {α : Type} {sc : ZS} {d y pc p : Nat} {M : ZI} {R : ZF} {L : ZY} {E : α → Option Value → ZH → Prop} {o : Option α} {s0 s1 s2 s3 s4 s5 s6 s7 s8 s9 s10 : Slot} {tl : List Slot} {st : List Value} {x : Option Nat} (hd : zdec y pc = some (.aload 11, 2)) (hp : pc + 2 = p) (k : zG sc d y p (s0 :: s1 :: s2 :: s3 :: s4 :: s5 :: s6 :: s7 :: s8 :: s9 :: s10 :: .val (va_rf x) :: tl) (va_rf x :: st) (M, R, L) o E) : zG sc d y pc (s0 :: s1 :: s2 :: s3 :: s4 :: s5 :: s6 :: s7 :: s8 :: s9 :: s10 :: .val (va_rf x) :: tl) st (M, R, L) o E := by
  cases x with
  | none => exact zG_an11 hd hp k
  | some r => exact zG_al11 hd hp k
theorem zG_is11 {α : Type} {sc : ZS} {d y pc p : Nat} {M : ZI} {R : ZF} {L : ZY} {E : α → Option Value → ZH → Prop} {o : Option α} {s0 s1 s2 s3 s4 s5 s6 s7 s8 s9 s10 : Slot} {tl : List Slot} {st : List Value} {w : Slot} {x : Int32} (hd : zdec y pc = some (.istore 11, 2)) (hp : pc + 2 = p) (k : zG sc d y p (s0 :: s1 :: s2 :: s3 :: s4 :: s5 :: s6 :: s7 :: s8 :: s9 :: s10 :: .val (.int x) :: tl) st (M, R, L) o E) : zG sc d y pc (s0 :: s1 :: s2 :: s3 :: s4 :: s5 :: s6 :: s7 :: s8 :: s9 :: s10 :: w :: tl) (.int x :: st) (M, R, L) o E := by
  subst hp; exact zG_step hd (by first | rfl | simp [zstep, zst]) k
theorem zG_js11 {α : Type} {sc : ZS} {d y pc p : Nat} {M : ZI} {R : ZF} {L : ZY} {E : α → Option Value → ZH → Prop} {s0 s1 s2 s3 s4 s5 s6 s7 s8 s9 s10 : Slot} {tl : List Slot} {st : List Value} {f : Int32 → Option α} {w : Slot} {x : Int32} (hd : zdec y pc = some (.istore 11, 2)) (hp : pc + 2 = p) (k : ∀ x, zG sc d y p (s0 :: s1 :: s2 :: s3 :: s4 :: s5 :: s6 :: s7 :: s8 :: s9 :: s10 :: .val (.int x) :: tl) st (M, R, L) (f x) E) : zG sc d y pc (s0 :: s1 :: s2 :: s3 :: s4 :: s5 :: s6 :: s7 :: s8 :: s9 :: s10 :: w :: tl) (.int x :: st) (M, R, L) (zlet x f) E := by
  subst hp; exact zG_step hd (by first | rfl | simp [zstep, zst]) (k x)
theorem zG_as11 {α : Type} {sc : ZS} {d y pc p : Nat} {M : ZI} {R : ZF} {L : ZY} {E : α → Option Value → ZH → Prop} {o : Option α} {s0 s1 s2 s3 s4 s5 s6 s7 s8 s9 s10 : Slot} {tl : List Slot} {st : List Value} {w : Slot} {x : Nat} (hd : zdec y pc = some (.astore 11, 2)) (hp : pc + 2 = p) (k : zG sc d y p (s0 :: s1 :: s2 :: s3 :: s4 :: s5 :: s6 :: s7 :: s8 :: s9 :: s10 :: .val (.ref x) :: tl) st (M, R, L) o E) : zG sc d y pc (s0 :: s1 :: s2 :: s3 :: s4 :: s5 :: s6 :: s7 :: s8 :: s9 :: s10 :: w :: tl) (.ref x :: st) (M, R, L) o E := by
  subst hp; exact zG_step hd (by first | rfl | simp [zstep, zst]) k
theorem zG_az11 {α : Type} {sc : ZS} {d y pc p : Nat} {M : ZI} {R : ZF} {L : ZY} {E : α → Option Value → ZH → Prop} {o : Option α} {s0 s1 s2 s3 s4 s5 s6 s7 s8 s9 s10 : Slot} {tl : List Slot} {st : List Value} {w : Slot} (hd : zdec y pc = some (.astore 11, 2)) (hp : pc + 2 = p) (k : zG sc d y p (s0 :: s1 :: s2 :: s3 :: s4 :: s5 :: s6 :: s7 :: s8 :: s9 :: s10 :: .val .null :: tl) st (M, R, L) o E) : zG sc d y pc (s0 :: s1 :: s2 :: s3 :: s4 :: s5 :: s6 :: s7 :: s8 :: s9 :: s10 :: w :: tl) (.null :: st) (M, R, L) o E := by
  subst hp; exact zG_step hd (by first | rfl | simp [zstep, zst]) k
theorem zG_aq11 {α : Type} {sc : ZS} {d y pc p : Nat} {M : ZI} {R : ZF} {L : ZY} {E : α → Option Value → ZH → Prop} {o : Option α} {s0 s1 s2 s3 s4 s5 s6 s7 s8 s9 s10 : Slot} {tl : List Slot} {st : List Value} {w : Slot} {x : Option Nat} (hd : zdec y pc = some (.astore 11, 2)) (hp : pc + 2 = p) (k : zG sc d y p (s0 :: s1 :: s2 :: s3 :: s4 :: s5 :: s6 :: s7 :: s8 :: s9 :: s10 :: .val (va_rf x) :: tl) st (M, R, L) o E) : zG sc d y pc (s0 :: s1 :: s2 :: s3 :: s4 :: s5 :: s6 :: s7 :: s8 :: s9 :: s10 :: w :: tl) (va_rf x :: st) (M, R, L) o E := by
  cases x with
  | none => exact zG_az11 hd hp k
  | some r => exact zG_as11 hd hp k
theorem zG_ii11 {α : Type} {sc : ZS} {d y pc p : Nat} {M : ZI} {R : ZF} {L : ZY} {E : α → Option Value → ZH → Prop} {o : Option α} {s0 s1 s2 s3 s4 s5 s6 s7 s8 s9 s10 : Slot} {tl : List Slot} {st : List Value} {x c : Int32} {n : Int} (hd : zdec y pc = some (.iinc 11 n, 3)) (hc : Int32.ofInt n = c) (hp : pc + 3 = p) (k : zG sc d y p (s0 :: s1 :: s2 :: s3 :: s4 :: s5 :: s6 :: s7 :: s8 :: s9 :: s10 :: .val (.int (x + c)) :: tl) st (M, R, L) o E) : zG sc d y pc (s0 :: s1 :: s2 :: s3 :: s4 :: s5 :: s6 :: s7 :: s8 :: s9 :: s10 :: .val (.int x) :: tl) st (M, R, L) o E := by
  subst hp; subst hc; exact zG_step hd (by simp [zstep]) k
theorem zG_il12 {α : Type} {sc : ZS} {d y pc p : Nat} {M : ZI} {R : ZF} {L : ZY} {E : α → Option Value → ZH → Prop} {o : Option α} {s0 s1 s2 s3 s4 s5 s6 s7 s8 s9 s10 s11 : Slot} {tl : List Slot} {st : List Value} {x : Int32} (hd : zdec y pc = some (.iload 12, 2)) (hp : pc + 2 = p) (k : zG sc d y p (s0 :: s1 :: s2 :: s3 :: s4 :: s5 :: s6 :: s7 :: s8 :: s9 :: s10 :: s11 :: .val (.int x) :: tl) (.int x :: st) (M, R, L) o E) : zG sc d y pc (s0 :: s1 :: s2 :: s3 :: s4 :: s5 :: s6 :: s7 :: s8 :: s9 :: s10 :: s11 :: .val (.int x) :: tl) st (M, R, L) o E := by
  subst hp; exact zG_step hd (by first | rfl | simp [zstep, zld]) k
theorem zG_al12 {α : Type} {sc : ZS} {d y pc p : Nat} {M : ZI} {R : ZF} {L : ZY} {E : α → Option Value → ZH → Prop} {o : Option α} {s0 s1 s2 s3 s4 s5 s6 s7 s8 s9 s10 s11 : Slot} {tl : List Slot} {st : List Value} {x : Nat} (hd : zdec y pc = some (.aload 12, 2)) (hp : pc + 2 = p) (k : zG sc d y p (s0 :: s1 :: s2 :: s3 :: s4 :: s5 :: s6 :: s7 :: s8 :: s9 :: s10 :: s11 :: .val (.ref x) :: tl) (.ref x :: st) (M, R, L) o E) : zG sc d y pc (s0 :: s1 :: s2 :: s3 :: s4 :: s5 :: s6 :: s7 :: s8 :: s9 :: s10 :: s11 :: .val (.ref x) :: tl) st (M, R, L) o E := by
  subst hp; exact zG_step hd (by first | rfl | simp [zstep, zld]) k
theorem zG_an12 {α : Type} {sc : ZS} {d y pc p : Nat} {M : ZI} {R : ZF} {L : ZY} {E : α → Option Value → ZH → Prop} {o : Option α} {s0 s1 s2 s3 s4 s5 s6 s7 s8 s9 s10 s11 : Slot} {tl : List Slot} {st : List Value} (hd : zdec y pc = some (.aload 12, 2)) (hp : pc + 2 = p) (k : zG sc d y p (s0 :: s1 :: s2 :: s3 :: s4 :: s5 :: s6 :: s7 :: s8 :: s9 :: s10 :: s11 :: .val .null :: tl) (.null :: st) (M, R, L) o E) : zG sc d y pc (s0 :: s1 :: s2 :: s3 :: s4 :: s5 :: s6 :: s7 :: s8 :: s9 :: s10 :: s11 :: .val .null :: tl) st (M, R, L) o E := by
  subst hp; exact zG_step hd (by first | rfl | simp [zstep, zld]) k
theorem zG_ao12 {α : Type} {sc : ZS} {d y pc p : Nat} {M : ZI} {R : ZF} {L : ZY} {E : α → Option Value → ZH → Prop} {o : Option α} {s0 s1 s2 s3 s4 s5 s6 s7 s8 s9 s10 s11 : Slot} {tl : List Slot} {st : List Value} {x : Option Nat} (hd : zdec y pc = some (.aload 12, 2)) (hp : pc + 2 = p) (k : zG sc d y p (s0 :: s1 :: s2 :: s3 :: s4 :: s5 :: s6 :: s7 :: s8 :: s9 :: s10 :: s11 :: .val (va_rf x) :: tl) (va_rf x :: st) (M, R, L) o E) : zG sc d y pc (s0 :: s1 :: s2 :: s3 :: s4 :: s5 :: s6 :: s7 :: s8 :: s9 :: s10 :: s11 :: .val (va_rf x) :: tl) st (M, R, L) o E := by
  cases x with
  | none => exact zG_an12 hd hp k
  | some r => exact zG_al12 hd hp k
theorem zG_is12 {α : Type} {sc : ZS} {d y pc p : Nat} {M : ZI} {R : ZF} {L : ZY} {E : α → Option Value → ZH → Prop} {o : Option α} {s0 s1 s2 s3 s4 s5 s6 s7 s8 s9 s10 s11 : Slot} {tl : List Slot} {st : List Value} {w : Slot} {x : Int32} (hd : zdec y pc = some (.istore 12, 2)) (hp : pc + 2 = p) (k : zG sc d y p (s0 :: s1 :: s2 :: s3 :: s4 :: s5 :: s6 :: s7 :: s8 :: s9 :: s10 :: s11 :: .val (.int x) :: tl) st (M, R, L) o E) : zG sc d y pc (s0 :: s1 :: s2 :: s3 :: s4 :: s5 :: s6 :: s7 :: s8 :: s9 :: s10 :: s11 :: w :: tl) (.int x :: st) (M, R, L) o E := by
  subst hp; exact zG_step hd (by first | rfl | simp [zstep, zst]) k
theorem zG_js12 {α : Type} {sc : ZS} {d y pc p : Nat} {M : ZI} {R : ZF} {L : ZY} {E : α → Option Value → ZH → Prop} {s0 s1 s2 s3 s4 s5 s6 s7 s8 s9 s10 s11 : Slot} {tl : List Slot} {st : List Value} {f : Int32 → Option α} {w : Slot} {x : Int32} (hd : zdec y pc = some (.istore 12, 2)) (hp : pc + 2 = p) (k : ∀ x, zG sc d y p (s0 :: s1 :: s2 :: s3 :: s4 :: s5 :: s6 :: s7 :: s8 :: s9 :: s10 :: s11 :: .val (.int x) :: tl) st (M, R, L) (f x) E) : zG sc d y pc (s0 :: s1 :: s2 :: s3 :: s4 :: s5 :: s6 :: s7 :: s8 :: s9 :: s10 :: s11 :: w :: tl) (.int x :: st) (M, R, L) (zlet x f) E := by
  subst hp; exact zG_step hd (by first | rfl | simp [zstep, zst]) (k x)
theorem zG_as12 {α : Type} {sc : ZS} {d y pc p : Nat} {M : ZI} {R : ZF} {L : ZY} {E : α → Option Value → ZH → Prop} {o : Option α} {s0 s1 s2 s3 s4 s5 s6 s7 s8 s9 s10 s11 : Slot} {tl : List Slot} {st : List Value} {w : Slot} {x : Nat} (hd : zdec y pc = some (.astore 12, 2)) (hp : pc + 2 = p) (k : zG sc d y p (s0 :: s1 :: s2 :: s3 :: s4 :: s5 :: s6 :: s7 :: s8 :: s9 :: s10 :: s11 :: .val (.ref x) :: tl) st (M, R, L) o E) : zG sc d y pc (s0 :: s1 :: s2 :: s3 :: s4 :: s5 :: s6 :: s7 :: s8 :: s9 :: s10 :: s11 :: w :: tl) (.ref x :: st) (M, R, L) o E := by
  subst hp; exact zG_step hd (by first | rfl | simp [zstep, zst]) k
theorem zG_az12 {α : Type} {sc : ZS} {d y pc p : Nat} {M : ZI} {R : ZF} {L : ZY} {E : α → Option Value → ZH → Prop} {o : Option α} {s0 s1 s2 s3 s4 s5 s6 s7 s8 s9 s10 s11 : Slot} {tl : List Slot} {st : List Value} {w : Slot} (hd : zdec y pc = some (.astore 12, 2)) (hp : pc + 2 = p) (k : zG sc d y p (s0 :: s1 :: s2 :: s3 :: s4 :: s5 :: s6 :: s7 :: s8 :: s9 :: s10 :: s11 :: .val .null :: tl) st (M, R, L) o E) : zG sc d y pc (s0 :: s1 :: s2 :: s3 :: s4 :: s5 :: s6 :: s7 :: s8 :: s9 :: s10 :: s11 :: w :: tl) (.null :: st) (M, R, L) o E := by
  subst hp; exact zG_step hd (by first | rfl | simp [zstep, zst]) k
theorem zG_aq12 {α : Type} {sc : ZS} {d y pc p : Nat} {M : ZI} {R : ZF} {L : ZY} {E : α → Option Value → ZH → Prop} {o : Option α} {s0 s1 s2 s3 s4 s5 s6 s7 s8 s9 s10 s11 : Slot} {tl : List Slot} {st : List Value} {w : Slot} {x : Option Nat} (hd : zdec y pc = some (.astore 12, 2)) (hp : pc + 2 = p) (k : zG sc d y p (s0 :: s1 :: s2 :: s3 :: s4 :: s5 :: s6 :: s7 :: s8 :: s9 :: s10 :: s11 :: .val (va_rf x) :: tl) st (M, R, L) o E) : zG sc d y pc (s0 :: s1 :: s2 :: s3 :: s4 :: s5 :: s6 :: s7 :: s8 :: s9 :: s10 :: s11 :: w :: tl) (va_rf x :: st) (M, R, L) o E := by
  cases x with
  | none => exact zG_az12 hd hp k
  | some r => exact zG_as12 hd hp k
theorem zG_ii12 {α : Type} {sc : ZS} {d y pc p : Nat} {M : ZI} {R : ZF} {L : ZY} {E : α → Option Value → ZH → Prop} {o : Option α} {s0 s1 s2 s3 s4 s5 s6 s7 s8 s9 s10 s11 : Slot} {tl : List Slot} {st : List Value} {x c : Int32} {n : Int} (hd : zdec y pc = some (.iinc 12 n, 3)) (hc : Int32.ofInt n = c) (hp : pc + 3 = p) (k : zG sc d y p (s0 :: s1 :: s2 :: s3 :: s4 :: s5 :: s6 :: s7 :: s8 :: s9 :: s10 :: s11 :: .val (.int (x + c)) :: tl) st (M, R, L) o E) : zG sc d y pc (s0 :: s1 :: s2 :: s3 :: s4 :: s5 :: s6 :: s7 :: s8 :: s9 :: s10 :: s11 :: .val (.int x) :: tl) st (M, R, L) o E := by
  subst hp; subst hc; exact zG_step hd (by simp [zstep]) k
theorem zG_il13 {α : Type} {sc : ZS} {d y pc p : Nat} {M : ZI} {R : ZF} {L : ZY} {E : α → Option Value → ZH → Prop} {o : Option α} {s0 s1 s2 s3 s4 s5 s6 s7 s8 s9 s10 s11 s12 : Slot} {tl : List Slot} {st : List Value} {x : Int32} (hd : zdec y pc = some (.iload 13, 2)) (hp : pc + 2 = p) (k : zG sc d y p (s0 :: s1 :: s2 :: s3 :: s4 :: s5 :: s6 :: s7 :: s8 :: s9 :: s10 :: s11 :: s12 :: .val (.int x) :: tl) (.int x :: st) (M, R, L) o E) : zG sc d y pc (s0 :: s1 :: s2 :: s3 :: s4 :: s5 :: s6 :: s7 :: s8 :: s9 :: s10 :: s11 :: s12 :: .val (.int x) :: tl) st (M, R, L) o E := by
  subst hp; exact zG_step hd (by first | rfl | simp [zstep, zld]) k
theorem zG_al13 {α : Type} {sc : ZS} {d y pc p : Nat} {M : ZI} {R : ZF} {L : ZY} {E : α → Option Value → ZH → Prop} {o : Option α} {s0 s1 s2 s3 s4 s5 s6 s7 s8 s9 s10 s11 s12 : Slot} {tl : List Slot} {st : List Value} {x : Nat} (hd : zdec y pc = some (.aload 13, 2)) (hp : pc + 2 = p) (k : zG sc d y p (s0 :: s1 :: s2 :: s3 :: s4 :: s5 :: s6 :: s7 :: s8 :: s9 :: s10 :: s11 :: s12 :: .val (.ref x) :: tl) (.ref x :: st) (M, R, L) o E) : zG sc d y pc (s0 :: s1 :: s2 :: s3 :: s4 :: s5 :: s6 :: s7 :: s8 :: s9 :: s10 :: s11 :: s12 :: .val (.ref x) :: tl) st (M, R, L) o E := by
  subst hp; exact zG_step hd (by first | rfl | simp [zstep, zld]) k
theorem zG_an13 {α : Type} {sc : ZS} {d y pc p : Nat} {M : ZI} {R : ZF} {L : ZY} {E : α → Option Value → ZH → Prop} {o : Option α} {s0 s1 s2 s3 s4 s5 s6 s7 s8 s9 s10 s11 s12 : Slot} {tl : List Slot} {st : List Value} (hd : zdec y pc = some (.aload 13, 2)) (hp : pc + 2 = p) (k : zG sc d y p (s0 :: s1 :: s2 :: s3 :: s4 :: s5 :: s6 :: s7 :: s8 :: s9 :: s10 :: s11 :: s12 :: .val .null :: tl) (.null :: st) (M, R, L) o E) : zG sc d y pc (s0 :: s1 :: s2 :: s3 :: s4 :: s5 :: s6 :: s7 :: s8 :: s9 :: s10 :: s11 :: s12 :: .val .null :: tl) st (M, R, L) o E := by
  subst hp; exact zG_step hd (by first | rfl | simp [zstep, zld]) k
theorem zG_ao13 {α : Type} {sc : ZS} {d y pc p : Nat} {M : ZI} {R : ZF} {L : ZY} {E : α → Option Value → ZH → Prop} {o : Option α} {s0 s1 s2 s3 s4 s5 s6 s7 s8 s9 s10 s11 s12 : Slot} {tl : List Slot} {st : List Value} {x : Option Nat} (hd : zdec y pc = some (.aload 13, 2)) (hp : pc + 2 = p) (k : zG sc d y p (s0 :: s1 :: s2 :: s3 :: s4 :: s5 :: s6 :: s7 :: s8 :: s9 :: s10 :: s11 :: s12 :: .val (va_rf x) :: tl) (va_rf x :: st) (M, R, L) o E) : zG sc d y pc (s0 :: s1 :: s2 :: s3 :: s4 :: s5 :: s6 :: s7 :: s8 :: s9 :: s10 :: s11 :: s12 :: .val (va_rf x) :: tl) st (M, R, L) o E := by
  cases x with
  | none => exact zG_an13 hd hp k
  | some r => exact zG_al13 hd hp k
theorem zG_is13 {α : Type} {sc : ZS} {d y pc p : Nat} {M : ZI} {R : ZF} {L : ZY} {E : α → Option Value → ZH → Prop} {o : Option α} {s0 s1 s2 s3 s4 s5 s6 s7 s8 s9 s10 s11 s12 : Slot} {tl : List Slot} {st : List Value} {w : Slot} {x : Int32} (hd : zdec y pc = some (.istore 13, 2)) (hp : pc + 2 = p) (k : zG sc d y p (s0 :: s1 :: s2 :: s3 :: s4 :: s5 :: s6 :: s7 :: s8 :: s9 :: s10 :: s11 :: s12 :: .val (.int x) :: tl) st (M, R, L) o E) : zG sc d y pc (s0 :: s1 :: s2 :: s3 :: s4 :: s5 :: s6 :: s7 :: s8 :: s9 :: s10 :: s11 :: s12 :: w :: tl) (.int x :: st) (M, R, L) o E := by
  subst hp; exact zG_step hd (by first | rfl | simp [zstep, zst]) k
theorem zG_js13 {α : Type} {sc : ZS} {d y pc p : Nat} {M : ZI} {R : ZF} {L : ZY} {E : α → Option Value → ZH → Prop} {s0 s1 s2 s3 s4 s5 s6 s7 s8 s9 s10 s11 s12 : Slot} {tl : List Slot} {st : List Value} {f : Int32 → Option α} {w : Slot} {x : Int32} (hd : zdec y pc = some (.istore 13, 2)) (hp : pc + 2 = p) (k : ∀ x, zG sc d y p (s0 :: s1 :: s2 :: s3 :: s4 :: s5 :: s6 :: s7 :: s8 :: s9 :: s10 :: s11 :: s12 :: .val (.int x) :: tl) st (M, R, L) (f x) E) : zG sc d y pc (s0 :: s1 :: s2 :: s3 :: s4 :: s5 :: s6 :: s7 :: s8 :: s9 :: s10 :: s11 :: s12 :: w :: tl) (.int x :: st) (M, R, L) (zlet x f) E := by
  subst hp; exact zG_step hd (by first | rfl | simp [zstep, zst]) (k x)
theorem zG_as13 {α : Type} {sc : ZS} {d y pc p : Nat} {M : ZI} {R : ZF} {L : ZY} {E : α → Option Value → ZH → Prop} {o : Option α} {s0 s1 s2 s3 s4 s5 s6 s7 s8 s9 s10 s11 s12 : Slot} {tl : List Slot} {st : List Value} {w : Slot} {x : Nat} (hd : zdec y pc = some (.astore 13, 2)) (hp : pc + 2 = p) (k : zG sc d y p (s0 :: s1 :: s2 :: s3 :: s4 :: s5 :: s6 :: s7 :: s8 :: s9 :: s10 :: s11 :: s12 :: .val (.ref x) :: tl) st (M, R, L) o E) : zG sc d y pc (s0 :: s1 :: s2 :: s3 :: s4 :: s5 :: s6 :: s7 :: s8 :: s9 :: s10 :: s11 :: s12 :: w :: tl) (.ref x :: st) (M, R, L) o E := by
  subst hp; exact zG_step hd (by first | rfl | simp [zstep, zst]) k
theorem zG_az13 {α : Type} {sc : ZS} {d y pc p : Nat} {M : ZI} {R : ZF} {L : ZY} {E : α → Option Value → ZH → Prop} {o : Option α} {s0 s1 s2 s3 s4 s5 s6 s7 s8 s9 s10 s11 s12 : Slot} {tl : List Slot} {st : List Value} {w : Slot} (hd : zdec y pc = some (.astore 13, 2)) (hp : pc + 2 = p) (k : zG sc d y p (s0 :: s1 :: s2 :: s3 :: s4 :: s5 :: s6 :: s7 :: s8 :: s9 :: s10 :: s11 :: s12 :: .val .null :: tl) st (M, R, L) o E) : zG sc d y pc (s0 :: s1 :: s2 :: s3 :: s4 :: s5 :: s6 :: s7 :: s8 :: s9 :: s10 :: s11 :: s12 :: w :: tl) (.null :: st) (M, R, L) o E := by
  subst hp; exact zG_step hd (by first | rfl | simp [zstep, zst]) k
theorem zG_aq13 {α : Type} {sc : ZS} {d y pc p : Nat} {M : ZI} {R : ZF} {L : ZY} {E : α → Option Value → ZH → Prop} {o : Option α} {s0 s1 s2 s3 s4 s5 s6 s7 s8 s9 s10 s11 s12 : Slot} {tl : List Slot} {st : List Value} {w : Slot} {x : Option Nat} (hd : zdec y pc = some (.astore 13, 2)) (hp : pc + 2 = p) (k : zG sc d y p (s0 :: s1 :: s2 :: s3 :: s4 :: s5 :: s6 :: s7 :: s8 :: s9 :: s10 :: s11 :: s12 :: .val (va_rf x) :: tl) st (M, R, L) o E) : zG sc d y pc (s0 :: s1 :: s2 :: s3 :: s4 :: s5 :: s6 :: s7 :: s8 :: s9 :: s10 :: s11 :: s12 :: w :: tl) (va_rf x :: st) (M, R, L) o E := by
  cases x with
  | none => exact zG_az13 hd hp k
  | some r => exact zG_as13 hd hp k
theorem zG_ii13 {α : Type} {sc : ZS} {d y pc p : Nat} {M : ZI} {R : ZF} {L : ZY} {E : α → Option Value → ZH → Prop} {o : Option α} {s0 s1 s2 s3 s4 s5 s6 s7 s8 s9 s10 s11 s12 : Slot} {tl : List Slot} {st : List Value} {x c : Int32} {n : Int} (hd : zdec y pc = some (.iinc 13 n, 3)) (hc : Int32.ofInt n = c) (hp : pc + 3 = p) (k : zG sc d y p (s0 :: s1 :: s2 :: s3 :: s4 :: s5 :: s6 :: s7 :: s8 :: s9 :: s10 :: s11 :: s12 :: .val (.int (x + c)) :: tl) st (M, R, L) o E) : zG sc d y pc (s0 :: s1 :: s2 :: s3 :: s4 :: s5 :: s6 :: s7 :: s8 :: s9 :: s10 :: s11 :: s12 :: .val (.int x) :: tl) st (M, R, L) o E := by
  subst hp; subst hc; exact zG_step hd (by simp [zstep]) k
theorem zG_il14 {α : Type} {sc : ZS} {d y pc p : Nat} {M : ZI} {R : ZF} {L : ZY} {E : α → Option Value → ZH → Prop} {o : Option α} {s0 s1 s2 s3 s4 s5 s6 s7 s8 s9 s10 s11 s12 s13 : Slot} {tl : List Slot} {st : List Value} {x : Int32} (hd : zdec y pc = some (.iload 14, 2)) (hp : pc + 2 = p) (k : zG sc d y p (s0 :: s1 :: s2 :: s3 :: s4 :: s5 :: s6 :: s7 :: s8 :: s9 :: s10 :: s11 :: s12 :: s13 :: .val (.int x) :: tl) (.int x :: st) (M, R, L) o E) : zG sc d y pc (s0 :: s1 :: s2 :: s3 :: s4 :: s5 :: s6 :: s7 :: s8 :: s9 :: s10 :: s11 :: s12 :: s13 :: .val (.int x) :: tl) st (M, R, L) o E := by
  subst hp; exact zG_step hd (by first | rfl | simp [zstep, zld]) k
theorem zG_al14 {α : Type} {sc : ZS} {d y pc p : Nat} {M : ZI} {R : ZF} {L : ZY} {E : α → Option Value → ZH → Prop} {o : Option α} {s0 s1 s2 s3 s4 s5 s6 s7 s8 s9 s10 s11 s12 s13 : Slot} {tl : List Slot} {st : List Value} {x : Nat} (hd : zdec y pc = some (.aload 14, 2)) (hp : pc + 2 = p) (k : zG sc d y p (s0 :: s1 :: s2 :: s3 :: s4 :: s5 :: s6 :: s7 :: s8 :: s9 :: s10 :: s11 :: s12 :: s13 :: .val (.ref x) :: tl) (.ref x :: st) (M, R, L) o E) : zG sc d y pc (s0 :: s1 :: s2 :: s3 :: s4 :: s5 :: s6 :: s7 :: s8 :: s9 :: s10 :: s11 :: s12 :: s13 :: .val (.ref x) :: tl) st (M, R, L) o E := by
  subst hp; exact zG_step hd (by first | rfl | simp [zstep, zld]) k
theorem zG_an14 {α : Type} {sc : ZS} {d y pc p : Nat} {M : ZI} {R : ZF} {L : ZY} {E : α → Option Value → ZH → Prop} {o : Option α} {s0 s1 s2 s3 s4 s5 s6 s7 s8 s9 s10 s11 s12 s13 : Slot} {tl : List Slot} {st : List Value} (hd : zdec y pc = some (.aload 14, 2)) (hp : pc + 2 = p) (k : zG sc d y p (s0 :: s1 :: s2 :: s3 :: s4 :: s5 :: s6 :: s7 :: s8 :: s9 :: s10 :: s11 :: s12 :: s13 :: .val .null :: tl) (.null :: st) (M, R, L) o E) : zG sc d y pc (s0 :: s1 :: s2 :: s3 :: s4 :: s5 :: s6 :: s7 :: s8 :: s9 :: s10 :: s11 :: s12 :: s13 :: .val .null :: tl) st (M, R, L) o E := by
  subst hp; exact zG_step hd (by first | rfl | simp [zstep, zld]) k
theorem zG_ao14 {α : Type} {sc : ZS} {d y pc p : Nat} {M : ZI} {R : ZF} {L : ZY} {E : α → Option Value → ZH → Prop} {o : Option α} {s0 s1 s2 s3 s4 s5 s6 s7 s8 s9 s10 s11 s12 s13 : Slot} {tl : List Slot} {st : List Value} {x : Option Nat} (hd : zdec y pc = some (.aload 14, 2)) (hp : pc + 2 = p) (k : zG sc d y p (s0 :: s1 :: s2 :: s3 :: s4 :: s5 :: s6 :: s7 :: s8 :: s9 :: s10 :: s11 :: s12 :: s13 :: .val (va_rf x) :: tl) (va_rf x :: st) (M, R, L) o E) : zG sc d y pc (s0 :: s1 :: s2 :: s3 :: s4 :: s5 :: s6 :: s7 :: s8 :: s9 :: s10 :: s11 :: s12 :: s13 :: .val (va_rf x) :: tl) st (M, R, L) o E := by
  cases x with
  | none => exact zG_an14 hd hp k
  | some r => exact zG_al14 hd hp k
theorem zG_is14 {α : Type} {sc : ZS} {d y pc p : Nat} {M : ZI} {R : ZF} {L : ZY} {E : α → Option Value → ZH → Prop} {o : Option α} {s0 s1 s2 s3 s4 s5 s6 s7 s8 s9 s10 s11 s12 s13 : Slot} {tl : List Slot} {st : List Value} {w : Slot} {x : Int32} (hd : zdec y pc = some (.istore 14, 2)) (hp : pc + 2 = p) (k : zG sc d y p (s0 :: s1 :: s2 :: s3 :: s4 :: s5 :: s6 :: s7 :: s8 :: s9 :: s10 :: s11 :: s12 :: s13 :: .val (.int x) :: tl) st (M, R, L) o E) : zG sc d y pc (s0 :: s1 :: s2 :: s3 :: s4 :: s5 :: s6 :: s7 :: s8 :: s9 :: s10 :: s11 :: s12 :: s13 :: w :: tl) (.int x :: st) (M, R, L) o E := by
  subst hp; exact zG_step hd (by first | rfl | simp [zstep, zst]) k
theorem zG_js14 {α : Type} {sc : ZS} {d y pc p : Nat} {M : ZI} {R : ZF} {L : ZY} {E : α → Option Value → ZH → Prop} {s0 s1 s2 s3 s4 s5 s6 s7 s8 s9 s10 s11 s12 s13 : Slot} {tl : List Slot} {st : List Value} {f : Int32 → Option α} {w : Slot} {x : Int32} (hd : zdec y pc = some (.istore 14, 2)) (hp : pc + 2 = p) (k : ∀ x, zG sc d y p (s0 :: s1 :: s2 :: s3 :: s4 :: s5 :: s6 :: s7 :: s8 :: s9 :: s10 :: s11 :: s12 :: s13 :: .val (.int x) :: tl) st (M, R, L) (f x) E) : zG sc d y pc (s0 :: s1 :: s2 :: s3 :: s4 :: s5 :: s6 :: s7 :: s8 :: s9 :: s10 :: s11 :: s12 :: s13 :: w :: tl) (.int x :: st) (M, R, L) (zlet x f) E := by
  subst hp; exact zG_step hd (by first | rfl | simp [zstep, zst]) (k x)
theorem zG_as14 {α : Type} {sc : ZS} {d y pc p : Nat} {M : ZI} {R : ZF} {L : ZY} {E : α → Option Value → ZH → Prop} {o : Option α} {s0 s1 s2 s3 s4 s5 s6 s7 s8 s9 s10 s11 s12 s13 : Slot} {tl : List Slot} {st : List Value} {w : Slot} {x : Nat} (hd : zdec y pc = some (.astore 14, 2)) (hp : pc + 2 = p) (k : zG sc d y p (s0 :: s1 :: s2 :: s3 :: s4 :: s5 :: s6 :: s7 :: s8 :: s9 :: s10 :: s11 :: s12 :: s13 :: .val (.ref x) :: tl) st (M, R, L) o E) : zG sc d y pc (s0 :: s1 :: s2 :: s3 :: s4 :: s5 :: s6 :: s7 :: s8 :: s9 :: s10 :: s11 :: s12 :: s13 :: w :: tl) (.ref x :: st) (M, R, L) o E := by
  subst hp; exact zG_step hd (by first | rfl | simp [zstep, zst]) k
theorem zG_az14 {α : Type} {sc : ZS} {d y pc p : Nat} {M : ZI} {R : ZF} {L : ZY} {E : α → Option Value → ZH → Prop} {o : Option α} {s0 s1 s2 s3 s4 s5 s6 s7 s8 s9 s10 s11 s12 s13 : Slot} {tl : List Slot} {st : List Value} {w : Slot} (hd : zdec y pc = some (.astore 14, 2)) (hp : pc + 2 = p) (k : zG sc d y p (s0 :: s1 :: s2 :: s3 :: s4 :: s5 :: s6 :: s7 :: s8 :: s9 :: s10 :: s11 :: s12 :: s13 :: .val .null :: tl) st (M, R, L) o E) : zG sc d y pc (s0 :: s1 :: s2 :: s3 :: s4 :: s5 :: s6 :: s7 :: s8 :: s9 :: s10 :: s11 :: s12 :: s13 :: w :: tl) (.null :: st) (M, R, L) o E := by
  subst hp; exact zG_step hd (by first | rfl | simp [zstep, zst]) k
theorem zG_aq14 {α : Type} {sc : ZS} {d y pc p : Nat} {M : ZI} {R : ZF} {L : ZY} {E : α → Option Value → ZH → Prop} {o : Option α} {s0 s1 s2 s3 s4 s5 s6 s7 s8 s9 s10 s11 s12 s13 : Slot} {tl : List Slot} {st : List Value} {w : Slot} {x : Option Nat} (hd : zdec y pc = some (.astore 14, 2)) (hp : pc + 2 = p) (k : zG sc d y p (s0 :: s1 :: s2 :: s3 :: s4 :: s5 :: s6 :: s7 :: s8 :: s9 :: s10 :: s11 :: s12 :: s13 :: .val (va_rf x) :: tl) st (M, R, L) o E) : zG sc d y pc (s0 :: s1 :: s2 :: s3 :: s4 :: s5 :: s6 :: s7 :: s8 :: s9 :: s10 :: s11 :: s12 :: s13 :: w :: tl) (va_rf x :: st) (M, R, L) o E := by
  cases x with
  | none => exact zG_az14 hd hp k
  | some r => exact zG_as14 hd hp k
theorem zG_ii14 {α : Type} {sc : ZS} {d y pc p : Nat} {M : ZI} {R : ZF} {L : ZY} {E : α → Option Value → ZH → Prop} {o : Option α} {s0 s1 s2 s3 s4 s5 s6 s7 s8 s9 s10 s11 s12 s13 : Slot} {tl : List Slot} {st : List Value} {x c : Int32} {n : Int} (hd : zdec y pc = some (.iinc 14 n, 3)) (hc : Int32.ofInt n = c) (hp : pc + 3 = p) (k : zG sc d y p (s0 :: s1 :: s2 :: s3 :: s4 :: s5 :: s6 :: s7 :: s8 :: s9 :: s10 :: s11 :: s12 :: s13 :: .val (.int (x + c)) :: tl) st (M, R, L) o E) : zG sc d y pc (s0 :: s1 :: s2 :: s3 :: s4 :: s5 :: s6 :: s7 :: s8 :: s9 :: s10 :: s11 :: s12 :: s13 :: .val (.int x) :: tl) st (M, R, L) o E := by
  subst hp; subst hc; exact zG_step hd (by simp [zstep]) k
theorem zG_il15 {α : Type} {sc : ZS} {d y pc p : Nat} {M : ZI} {R : ZF} {L : ZY} {E : α → Option Value → ZH → Prop} {o : Option α} {s0 s1 s2 s3 s4 s5 s6 s7 s8 s9 s10 s11 s12 s13 s14 : Slot} {tl : List Slot} {st : List Value} {x : Int32} (hd : zdec y pc = some (.iload 15, 2)) (hp : pc + 2 = p) (k : zG sc d y p (s0 :: s1 :: s2 :: s3 :: s4 :: s5 :: s6 :: s7 :: s8 :: s9 :: s10 :: s11 :: s12 :: s13 :: s14 :: .val (.int x) :: tl) (.int x :: st) (M, R, L) o E) : zG sc d y pc (s0 :: s1 :: s2 :: s3 :: s4 :: s5 :: s6 :: s7 :: s8 :: s9 :: s10 :: s11 :: s12 :: s13 :: s14 :: .val (.int x) :: tl) st (M, R, L) o E := by
  subst hp; exact zG_step hd (by first | rfl | simp [zstep, zld]) k
theorem zG_al15 {α : Type} {sc : ZS} {d y pc p : Nat} {M : ZI} {R : ZF} {L : ZY} {E : α → Option Value → ZH → Prop} {o : Option α} {s0 s1 s2 s3 s4 s5 s6 s7 s8 s9 s10 s11 s12 s13 s14 : Slot} {tl : List Slot} {st : List Value} {x : Nat} (hd : zdec y pc = some (.aload 15, 2)) (hp : pc + 2 = p) (k : zG sc d y p (s0 :: s1 :: s2 :: s3 :: s4 :: s5 :: s6 :: s7 :: s8 :: s9 :: s10 :: s11 :: s12 :: s13 :: s14 :: .val (.ref x) :: tl) (.ref x :: st) (M, R, L) o E) : zG sc d y pc (s0 :: s1 :: s2 :: s3 :: s4 :: s5 :: s6 :: s7 :: s8 :: s9 :: s10 :: s11 :: s12 :: s13 :: s14 :: .val (.ref x) :: tl) st (M, R, L) o E := by
  subst hp; exact zG_step hd (by first | rfl | simp [zstep, zld]) k
theorem zG_an15 {α : Type} {sc : ZS} {d y pc p : Nat} {M : ZI} {R : ZF} {L : ZY} {E : α → Option Value → ZH → Prop} {o : Option α} {s0 s1 s2 s3 s4 s5 s6 s7 s8 s9 s10 s11 s12 s13 s14 : Slot} {tl : List Slot} {st : List Value} (hd : zdec y pc = some (.aload 15, 2)) (hp : pc + 2 = p) (k : zG sc d y p (s0 :: s1 :: s2 :: s3 :: s4 :: s5 :: s6 :: s7 :: s8 :: s9 :: s10 :: s11 :: s12 :: s13 :: s14 :: .val .null :: tl) (.null :: st) (M, R, L) o E) : zG sc d y pc (s0 :: s1 :: s2 :: s3 :: s4 :: s5 :: s6 :: s7 :: s8 :: s9 :: s10 :: s11 :: s12 :: s13 :: s14 :: .val .null :: tl) st (M, R, L) o E := by
  subst hp; exact zG_step hd (by first | rfl | simp [zstep, zld]) k
theorem zG_ao15 {α : Type} {sc : ZS} {d y pc p : Nat} {M : ZI} {R : ZF} {L : ZY} {E : α → Option Value → ZH → Prop} {o : Option α} {s0 s1 s2 s3 s4 s5 s6 s7 s8 s9 s10 s11 s12 s13 s14 : Slot} {tl : List Slot} {st : List Value} {x : Option Nat} (hd : zdec y pc = some (.aload 15, 2)) (hp : pc + 2 = p) (k : zG sc d y p (s0 :: s1 :: s2 :: s3 :: s4 :: s5 :: s6 :: s7 :: s8 :: s9 :: s10 :: s11 :: s12 :: s13 :: s14 :: .val (va_rf x) :: tl) (va_rf x :: st) (M, R, L) o E) : zG sc d y pc (s0 :: s1 :: s2 :: s3 :: s4 :: s5 :: s6 :: s7 :: s8 :: s9 :: s10 :: s11 :: s12 :: s13 :: s14 :: .val (va_rf x) :: tl) st (M, R, L) o E := by
  cases x with
  | none => exact zG_an15 hd hp k
  | some r => exact zG_al15 hd hp k
theorem zG_is15 {α : Type} {sc : ZS} {d y pc p : Nat} {M : ZI} {R : ZF} {L : ZY} {E : α → Option Value → ZH → Prop} {o : Option α} {s0 s1 s2 s3 s4 s5 s6 s7 s8 s9 s10 s11 s12 s13 s14 : Slot} {tl : List Slot} {st : List Value} {w : Slot} {x : Int32} (hd : zdec y pc = some (.istore 15, 2)) (hp : pc + 2 = p) (k : zG sc d y p (s0 :: s1 :: s2 :: s3 :: s4 :: s5 :: s6 :: s7 :: s8 :: s9 :: s10 :: s11 :: s12 :: s13 :: s14 :: .val (.int x) :: tl) st (M, R, L) o E) : zG sc d y pc (s0 :: s1 :: s2 :: s3 :: s4 :: s5 :: s6 :: s7 :: s8 :: s9 :: s10 :: s11 :: s12 :: s13 :: s14 :: w :: tl) (.int x :: st) (M, R, L) o E := by
  subst hp; exact zG_step hd (by first | rfl | simp [zstep, zst]) k
theorem zG_js15 {α : Type} {sc : ZS} {d y pc p : Nat} {M : ZI} {R : ZF} {L : ZY} {E : α → Option Value → ZH → Prop} {s0 s1 s2 s3 s4 s5 s6 s7 s8 s9 s10 s11 s12 s13 s14 : Slot} {tl : List Slot} {st : List Value} {f : Int32 → Option α} {w : Slot} {x : Int32} (hd : zdec y pc = some (.istore 15, 2)) (hp : pc + 2 = p) (k : ∀ x, zG sc d y p (s0 :: s1 :: s2 :: s3 :: s4 :: s5 :: s6 :: s7 :: s8 :: s9 :: s10 :: s11 :: s12 :: s13 :: s14 :: .val (.int x) :: tl) st (M, R, L) (f x) E) : zG sc d y pc (s0 :: s1 :: s2 :: s3 :: s4 :: s5 :: s6 :: s7 :: s8 :: s9 :: s10 :: s11 :: s12 :: s13 :: s14 :: w :: tl) (.int x :: st) (M, R, L) (zlet x f) E := by
  subst hp; exact zG_step hd (by first | rfl | simp [zstep, zst]) (k x)
theorem zG_as15 {α : Type} {sc : ZS} {d y pc p : Nat} {M : ZI} {R : ZF} {L : ZY} {E : α → Option Value → ZH → Prop} {o : Option α} {s0 s1 s2 s3 s4 s5 s6 s7 s8 s9 s10 s11 s12 s13 s14 : Slot} {tl : List Slot} {st : List Value} {w : Slot} {x : Nat} (hd : zdec y pc = some (.astore 15, 2)) (hp : pc + 2 = p) (k : zG sc d y p (s0 :: s1 :: s2 :: s3 :: s4 :: s5 :: s6 :: s7 :: s8 :: s9 :: s10 :: s11 :: s12 :: s13 :: s14 :: .val (.ref x) :: tl) st (M, R, L) o E) : zG sc d y pc (s0 :: s1 :: s2 :: s3 :: s4 :: s5 :: s6 :: s7 :: s8 :: s9 :: s10 :: s11 :: s12 :: s13 :: s14 :: w :: tl) (.ref x :: st) (M, R, L) o E := by
  subst hp; exact zG_step hd (by first | rfl | simp [zstep, zst]) k
theorem zG_az15 {α : Type} {sc : ZS} {d y pc p : Nat} {M : ZI} {R : ZF} {L : ZY} {E : α → Option Value → ZH → Prop} {o : Option α} {s0 s1 s2 s3 s4 s5 s6 s7 s8 s9 s10 s11 s12 s13 s14 : Slot} {tl : List Slot} {st : List Value} {w : Slot} (hd : zdec y pc = some (.astore 15, 2)) (hp : pc + 2 = p) (k : zG sc d y p (s0 :: s1 :: s2 :: s3 :: s4 :: s5 :: s6 :: s7 :: s8 :: s9 :: s10 :: s11 :: s12 :: s13 :: s14 :: .val .null :: tl) st (M, R, L) o E) : zG sc d y pc (s0 :: s1 :: s2 :: s3 :: s4 :: s5 :: s6 :: s7 :: s8 :: s9 :: s10 :: s11 :: s12 :: s13 :: s14 :: w :: tl) (.null :: st) (M, R, L) o E := by
  subst hp; exact zG_step hd (by first | rfl | simp [zstep, zst]) k
theorem zG_aq15 {α : Type} {sc : ZS} {d y pc p : Nat} {M : ZI} {R : ZF} {L : ZY} {E : α → Option Value → ZH → Prop} {o : Option α} {s0 s1 s2 s3 s4 s5 s6 s7 s8 s9 s10 s11 s12 s13 s14 : Slot} {tl : List Slot} {st : List Value} {w : Slot} {x : Option Nat} (hd : zdec y pc = some (.astore 15, 2)) (hp : pc + 2 = p) (k : zG sc d y p (s0 :: s1 :: s2 :: s3 :: s4 :: s5 :: s6 :: s7 :: s8 :: s9 :: s10 :: s11 :: s12 :: s13 :: s14 :: .val (va_rf x) :: tl) st (M, R, L) o E) : zG sc d y pc (s0 :: s1 :: s2 :: s3 :: s4 :: s5 :: s6 :: s7 :: s8 :: s9 :: s10 :: s11 :: s12 :: s13 :: s14 :: w :: tl) (va_rf x :: st) (M, R, L) o E := by
  cases x with
  | none => exact zG_az15 hd hp k
  | some r => exact zG_as15 hd hp k
theorem zG_ii15 {α : Type} {sc : ZS} {d y pc p : Nat} {M : ZI} {R : ZF} {L : ZY} {E : α → Option Value → ZH → Prop} {o : Option α} {s0 s1 s2 s3 s4 s5 s6 s7 s8 s9 s10 s11 s12 s13 s14 : Slot} {tl : List Slot} {st : List Value} {x c : Int32} {n : Int} (hd : zdec y pc = some (.iinc 15 n, 3)) (hc : Int32.ofInt n = c) (hp : pc + 3 = p) (k : zG sc d y p (s0 :: s1 :: s2 :: s3 :: s4 :: s5 :: s6 :: s7 :: s8 :: s9 :: s10 :: s11 :: s12 :: s13 :: s14 :: .val (.int (x + c)) :: tl) st (M, R, L) o E) : zG sc d y pc (s0 :: s1 :: s2 :: s3 :: s4 :: s5 :: s6 :: s7 :: s8 :: s9 :: s10 :: s11 :: s12 :: s13 :: s14 :: .val (.int x) :: tl) st (M, R, L) o E := by
  subst hp; subst hc; exact zG_step hd (by simp [zstep]) k
theorem zG_ic {α : Type} {sc : ZS} {d y pc p : Nat} {ls : List Slot} {M : ZI} {R : ZF} {L : ZY} {E : α → Option Value → ZH → Prop} {o : Option α} {st : List Value} {n : Int} {c : Int32} (hd : zdec y pc = some (.iconst n, 1)) (hc : Int32.ofInt n = c) (hp : pc + 1 = p) (k : zG sc d y p ls (.int c :: st) (M, R, L) o E) : zG sc d y pc ls st (M, R, L) o E := by
  subst hp; subst hc; exact zG_step hd (by simp [zstep]) k
theorem zG_bi {α : Type} {sc : ZS} {d y pc p : Nat} {ls : List Slot} {M : ZI} {R : ZF} {L : ZY} {E : α → Option Value → ZH → Prop} {o : Option α} {st : List Value} {n : Int} {c : Int32} (hd : zdec y pc = some (.bipush n, 2)) (hc : (Int8.ofInt n).toInt32 = c) (hp : pc + 2 = p) (k : zG sc d y p ls (.int c :: st) (M, R, L) o E) : zG sc d y pc ls st (M, R, L) o E := by
  subst hp; subst hc; exact zG_step hd (by simp [zstep]) k
theorem zG_si {α : Type} {sc : ZS} {d y pc p : Nat} {ls : List Slot} {M : ZI} {R : ZF} {L : ZY} {E : α → Option Value → ZH → Prop} {o : Option α} {st : List Value} {n : Int} {c : Int32} (hd : zdec y pc = some (.sipush n, 3)) (hc : (Int16.ofInt n).toInt32 = c) (hp : pc + 3 = p) (k : zG sc d y p ls (.int c :: st) (M, R, L) o E) : zG sc d y pc ls st (M, R, L) o E := by
  subst hp; subst hc; exact zG_step hd (by simp [zstep]) k
theorem zG_ldcw {α : Type} {sc : ZS} {d y pc p : Nat} {ls : List Slot} {M : ZI} {R : ZF} {L : ZY} {E : α → Option Value → ZH → Prop} {o : Option α} {st : List Value} {w i : Nat} {c : Int32} (hd : zdec y pc = some (.ldc_w i, 3)) (hw : zown y = w) (hc : zcon w i = some c) (hp : pc + 3 = p) (k : zG sc d y p ls (.int c :: st) (M, R, L) o E) : zG sc d y pc ls st (M, R, L) o E := by
  subst hp; subst hw; exact zG_step hd (by simp [zstep, hc]) k
theorem zG_ldc {α : Type} {sc : ZS} {d y pc p : Nat} {ls : List Slot} {M : ZI} {R : ZF} {L : ZY} {E : α → Option Value → ZH → Prop} {o : Option α} {st : List Value} {w i : Nat} {c : Int32} (hd : zdec y pc = some (.ldc i, 2)) (hw : zown y = w) (hn : zstr w i = none) (hc : zcon w i = some c) (hp : pc + 2 = p) (k : zG sc d y p ls (.int c :: st) (M, R, L) o E) : zG sc d y pc ls st (M, R, L) o E := by
  subst hp; subst hw; exact zG_step hd (by simp [zstep, hc, hn]) k
theorem zG_ldcs {α : Type} {sc : ZS} {d y pc p : Nat} {ls : List Slot} {M : ZI} {R : ZF} {L : ZY} {E : α → Option Value → ZH → Prop} {o : Option α} {st : List Value} {w i s r : Nat} (hd : zdec y pc = some (.ldc i, 2)) (hw : zown y = w) (hc : zstr w i = some s) (hr : 2000000 + s = r) (hp : pc + 2 = p) (k : zG sc d y p ls (.ref r :: st) (M, R, L) o E) : zG sc d y pc ls st (M, R, L) o E := by
  subst hp; subst hw; subst hr; exact zG_step hd (by simp [zstep, hc]) k
theorem zG_null {α : Type} {sc : ZS} {d y pc p : Nat} {ls : List Slot} {M : ZI} {R : ZF} {L : ZY} {E : α → Option Value → ZH → Prop} {o : Option α} {st : List Value} (hd : zdec y pc = some (.aconst_null, 1)) (hp : pc + 1 = p) (k : zG sc d y p ls (.null :: st) (M, R, L) o E) : zG sc d y pc ls st (M, R, L) o E := by
  subst hp; exact zG_step hd (by simp [zstep]) k
theorem zG_stai {α : Type} {sc : ZS} {d y pc p : Nat} {ls : List Slot} {M : ZI} {R : ZF} {L : ZY} {E : α → Option Value → ZH → Prop} {o : Option α} {st : List Value} {w ix s : Nat} (hd : zdec y pc = some (.getstatic ix, 3)) (hw : zown y = w) (hs : zsta w ix = some s) (h0 : s = 0) (hp : pc + 3 = p) (k : zG sc d y p ls (.int 1 :: st) (M, R, L) o E) : zG sc d y pc ls st (M, R, L) o E := by
  subst hp; subst hw; subst h0; exact zG_step hd (by simp [zstep, hs, zstv]) k
theorem zG_staz {α : Type} {sc : ZS} {d y pc p : Nat} {ls : List Slot} {M : ZI} {R : ZF} {L : ZY} {E : α → Option Value → ZH → Prop} {o : Option α} {st : List Value} {w ix s : Nat} (hd : zdec y pc = some (.getstatic ix, 3)) (hw : zown y = w) (hs : zsta w ix = some s) (h0 : s = 1) (hp : pc + 3 = p) (k : zG sc d y p ls (.retAddr 0 :: st) (M, R, L) o E) : zG sc d y pc ls st (M, R, L) o E := by
  subst hp; subst hw; subst h0; exact zG_step hd (by simp [zstep, hs, zstv]) k
theorem zG_star {α : Type} {sc : ZS} {d y pc p : Nat} {ls : List Slot} {M : ZI} {R : ZF} {L : ZY} {E : α → Option Value → ZH → Prop} {o : Option α} {st : List Value} {w ix s r : Nat} (hd : zdec y pc = some (.getstatic ix, 3)) (hw : zown y = w) (hs : zsta w ix = some s) (h0 : zstv s = .ref r) (hp : pc + 3 = p) (k : zG sc d y p ls (.ref r :: st) (M, R, L) o E) : zG sc d y pc ls st (M, R, L) o E := by
  subst hp; subst hw; exact zG_step hd (by simp [zstep, hs, h0]) k
theorem zG_add {α : Type} {sc : ZS} {d y pc p : Nat} {ls : List Slot} {M : ZI} {R : ZF} {L : ZY} {E : α → Option Value → ZH → Prop} {o : Option α} {st : List Value} {a b : Int32} (hd : zdec y pc = some (.iadd, 1)) (hp : pc + 1 = p) (k : zG sc d y p ls (.int (a + b) :: st) (M, R, L) o E) : zG sc d y pc ls (.int b :: .int a :: st) (M, R, L) o E := by
  subst hp; exact zG_step hd (by simp [zstep, zbin, zshl, zshr, zushr]) k
theorem zG_sub {α : Type} {sc : ZS} {d y pc p : Nat} {ls : List Slot} {M : ZI} {R : ZF} {L : ZY} {E : α → Option Value → ZH → Prop} {o : Option α} {st : List Value} {a b : Int32} (hd : zdec y pc = some (.isub, 1)) (hp : pc + 1 = p) (k : zG sc d y p ls (.int (a - b) :: st) (M, R, L) o E) : zG sc d y pc ls (.int b :: .int a :: st) (M, R, L) o E := by
  subst hp; exact zG_step hd (by simp [zstep, zbin, zshl, zshr, zushr]) k
theorem zG_mul {α : Type} {sc : ZS} {d y pc p : Nat} {ls : List Slot} {M : ZI} {R : ZF} {L : ZY} {E : α → Option Value → ZH → Prop} {o : Option α} {st : List Value} {a b : Int32} (hd : zdec y pc = some (.imul, 1)) (hp : pc + 1 = p) (k : zG sc d y p ls (.int (a * b) :: st) (M, R, L) o E) : zG sc d y pc ls (.int b :: .int a :: st) (M, R, L) o E := by
  subst hp; exact zG_step hd (by simp [zstep, zbin, zshl, zshr, zushr]) k
theorem zG_and {α : Type} {sc : ZS} {d y pc p : Nat} {ls : List Slot} {M : ZI} {R : ZF} {L : ZY} {E : α → Option Value → ZH → Prop} {o : Option α} {st : List Value} {a b : Int32} (hd : zdec y pc = some (.iand, 1)) (hp : pc + 1 = p) (k : zG sc d y p ls (.int (a &&& b) :: st) (M, R, L) o E) : zG sc d y pc ls (.int b :: .int a :: st) (M, R, L) o E := by
  subst hp; exact zG_step hd (by simp [zstep, zbin, zshl, zshr, zushr]) k
theorem zG_or {α : Type} {sc : ZS} {d y pc p : Nat} {ls : List Slot} {M : ZI} {R : ZF} {L : ZY} {E : α → Option Value → ZH → Prop} {o : Option α} {st : List Value} {a b : Int32} (hd : zdec y pc = some (.ior, 1)) (hp : pc + 1 = p) (k : zG sc d y p ls (.int (a ||| b) :: st) (M, R, L) o E) : zG sc d y pc ls (.int b :: .int a :: st) (M, R, L) o E := by
  subst hp; exact zG_step hd (by simp [zstep, zbin, zshl, zshr, zushr]) k
theorem zG_xor {α : Type} {sc : ZS} {d y pc p : Nat} {ls : List Slot} {M : ZI} {R : ZF} {L : ZY} {E : α → Option Value → ZH → Prop} {o : Option α} {st : List Value} {a b : Int32} (hd : zdec y pc = some (.ixor, 1)) (hp : pc + 1 = p) (k : zG sc d y p ls (.int (a ^^^ b) :: st) (M, R, L) o E) : zG sc d y pc ls (.int b :: .int a :: st) (M, R, L) o E := by
  subst hp; exact zG_step hd (by simp [zstep, zbin, zshl, zshr, zushr]) k
theorem zG_shl {α : Type} {sc : ZS} {d y pc p : Nat} {ls : List Slot} {M : ZI} {R : ZF} {L : ZY} {E : α → Option Value → ZH → Prop} {o : Option α} {st : List Value} {a b : Int32} (hd : zdec y pc = some (.ishl, 1)) (hp : pc + 1 = p) (k : zG sc d y p ls (.int (zshl a b) :: st) (M, R, L) o E) : zG sc d y pc ls (.int b :: .int a :: st) (M, R, L) o E := by
  subst hp; exact zG_step hd (by simp [zstep, zbin, zshl, zshr, zushr]) k
theorem zG_shr {α : Type} {sc : ZS} {d y pc p : Nat} {ls : List Slot} {M : ZI} {R : ZF} {L : ZY} {E : α → Option Value → ZH → Prop} {o : Option α} {st : List Value} {a b : Int32} (hd : zdec y pc = some (.ishr, 1)) (hp : pc + 1 = p) (k : zG sc d y p ls (.int (zshr a b) :: st) (M, R, L) o E) : zG sc d y pc ls (.int b :: .int a :: st) (M, R, L) o E := by
  subst hp; exact zG_step hd (by simp [zstep, zbin, zshl, zshr, zushr]) k
theorem zG_ush {α : Type} {sc : ZS} {d y pc p : Nat} {ls : List Slot} {M : ZI} {R : ZF} {L : ZY} {E : α → Option Value → ZH → Prop} {o : Option α} {st : List Value} {a b : Int32} (hd : zdec y pc = some (.iushr, 1)) (hp : pc + 1 = p) (k : zG sc d y p ls (.int (zushr a b) :: st) (M, R, L) o E) : zG sc d y pc ls (.int b :: .int a :: st) (M, R, L) o E := by
  subst hp; exact zG_step hd (by simp [zstep, zbin, zshl, zshr, zushr]) k
theorem zG_div {α : Type} {sc : ZS} {d y pc p : Nat} {ls : List Slot} {M : ZI} {R : ZF} {L : ZY} {E : α → Option Value → ZH → Prop} {o : Option α} {st : List Value} {a b : Int32} (hd : zdec y pc = some (.idiv, 1)) (hb : ¬ b = 0) (hp : pc + 1 = p) (k : zG sc d y p ls (.int (a / b) :: st) (M, R, L) o E) : zG sc d y pc ls (.int b :: .int a :: st) (M, R, L) o E := by
  subst hp; exact zG_step hd (by simp [zstep, hb, zrem]) k
theorem zG_divg {α : Type} {sc : ZS} {d y pc p : Nat} {ls : List Slot} {M : ZI} {R : ZF} {L : ZY} {E : α → Option Value → ZH → Prop} {o : Option α} {st : List Value} {a b : Int32} (hd : zdec y pc = some (.idiv, 1)) (hp : pc + 1 = p) (k : zG sc d y p ls (.int (a / b) :: st) (M, R, L) o E) : zG sc d y pc ls (.int b :: .int a :: st) (M, R, L) (if b = 0 then none else o) E := zG_ite (fun _ => zG_none) (fun hb => zG_div hd hb hp k)
theorem zG_rem {α : Type} {sc : ZS} {d y pc p : Nat} {ls : List Slot} {M : ZI} {R : ZF} {L : ZY} {E : α → Option Value → ZH → Prop} {o : Option α} {st : List Value} {a b : Int32} (hd : zdec y pc = some (.irem, 1)) (hb : ¬ b = 0) (hp : pc + 1 = p) (k : zG sc d y p ls (.int (zrem a b) :: st) (M, R, L) o E) : zG sc d y pc ls (.int b :: .int a :: st) (M, R, L) o E := by
  subst hp; exact zG_step hd (by simp [zstep, hb, zrem]) k
theorem zG_remg {α : Type} {sc : ZS} {d y pc p : Nat} {ls : List Slot} {M : ZI} {R : ZF} {L : ZY} {E : α → Option Value → ZH → Prop} {o : Option α} {st : List Value} {a b : Int32} (hd : zdec y pc = some (.irem, 1)) (hp : pc + 1 = p) (k : zG sc d y p ls (.int (zrem a b) :: st) (M, R, L) o E) : zG sc d y pc ls (.int b :: .int a :: st) (M, R, L) (if b = 0 then none else o) E := zG_ite (fun _ => zG_none) (fun hb => zG_rem hd hb hp k)
theorem zG_neg {α : Type} {sc : ZS} {d y pc p : Nat} {ls : List Slot} {M : ZI} {R : ZF} {L : ZY} {E : α → Option Value → ZH → Prop} {o : Option α} {st : List Value} {a : Int32} (hd : zdec y pc = some (.ineg, 1)) (hp : pc + 1 = p) (k : zG sc d y p ls (.int (-a) :: st) (M, R, L) o E) : zG sc d y pc ls (.int a :: st) (M, R, L) o E := by
  subst hp; exact zG_step hd (by simp [zstep]) k
theorem zG_i2c {α : Type} {sc : ZS} {d y pc p : Nat} {ls : List Slot} {M : ZI} {R : ZF} {L : ZY} {E : α → Option Value → ZH → Prop} {o : Option α} {st : List Value} {a : Int32} (hd : zdec y pc = some (.i2c, 1)) (hp : pc + 1 = p) (k : zG sc d y p ls (.int (a.toUInt32 % 65536).toInt32 :: st) (M, R, L) o E) : zG sc d y pc ls (.int a :: st) (M, R, L) o E := by
  subst hp; exact zG_step hd (by simp [zstep]) k
theorem zG_dup {α : Type} {sc : ZS} {d y pc p : Nat} {ls : List Slot} {M : ZI} {R : ZF} {L : ZY} {E : α → Option Value → ZH → Prop} {o : Option α} {st : List Value} {v : Value} (hd : zdec y pc = some (.dup, 1)) (hv : v.category = 1) (hp : pc + 1 = p) (k : zG sc d y p ls (v :: v :: st) (M, R, L) o E) : zG sc d y pc ls (v :: st) (M, R, L) o E := by
  subst hp; exact zG_step hd (by simp [zstep, hv]) k
theorem zG_dupx1 {α : Type} {sc : ZS} {d y pc p : Nat} {ls : List Slot} {M : ZI} {R : ZF} {L : ZY} {E : α → Option Value → ZH → Prop} {o : Option α} {st : List Value} {v w : Value} (hd : zdec y pc = some (.dup_x1, 1)) (hv : v.category = 1) (hw : w.category = 1) (hp : pc + 1 = p) (k : zG sc d y p ls (v :: w :: v :: st) (M, R, L) o E) : zG sc d y pc ls (v :: w :: st) (M, R, L) o E := by
  subst hp; exact zG_step hd (by simp [zstep, hv, hw]) k
theorem zG_dup2 {α : Type} {sc : ZS} {d y pc p : Nat} {ls : List Slot} {M : ZI} {R : ZF} {L : ZY} {E : α → Option Value → ZH → Prop} {o : Option α} {st : List Value} {v w : Value} (hd : zdec y pc = some (.dup2, 1)) (hv : v.category = 1) (hw : w.category = 1) (hp : pc + 1 = p) (k : zG sc d y p ls (v :: w :: v :: w :: st) (M, R, L) o E) : zG sc d y pc ls (v :: w :: st) (M, R, L) o E := by
  subst hp; exact zG_step hd (by simp [zstep, hv, hw]) k
theorem zG_pop {α : Type} {sc : ZS} {d y pc p : Nat} {ls : List Slot} {M : ZI} {R : ZF} {L : ZY} {E : α → Option Value → ZH → Prop} {o : Option α} {st : List Value} {v : Value} (hd : zdec y pc = some (.pop, 1)) (hv : v.category = 1) (hp : pc + 1 = p) (k : zG sc d y p ls st (M, R, L) o E) : zG sc d y pc ls (v :: st) (M, R, L) o E := by
  subst hp; exact zG_step hd (by simp [zstep, hv]) k
theorem zG_goto {α : Type} {sc : ZS} {d y pc p : Nat} {ls : List Slot} {M : ZI} {R : ZF} {L : ZY} {E : α → Option Value → ZH → Prop} {o : Option α} {st : List Value} {off : Int} (hd : zdec y pc = some (.goto off, 3)) (hp : (pc : Int) + off = (p : Int)) (k : zG sc d y p ls st (M, R, L) o E) : zG sc d y pc ls st (M, R, L) o E := by
  exact zG_step hd (by simp only [zstep, zto, hp, if_true]; simp) k
theorem zG_ceq {α : Type} {sc : ZS} {d y pc : Nat} {ls : List Slot} {M : ZI} {R : ZF} {L : ZY} {E : α → Option Value → ZH → Prop} {st : List Value} {p1 p2 : Nat} {o1 o2 : Option α} {off : Int} {a b : Int32} (hd : zdec y pc = some (.if_icmp .eq off, 3)) (hp : (pc : Int) + off = (p1 : Int)) (hq : pc + 3 = p2) (h1 : zG sc d y p1 ls st (M, R, L) o1 E) (h2 : zG sc d y p2 ls st (M, R, L) o2 E) : zG sc d y pc ls (.int b :: .int a :: st) (M, R, L) (if a = b then o1 else o2) E := by
  subst hq
  by_cases hc : a = b
  · rw [if_pos hc]; refine zG_step hd (p := p1) ?_ h1; simp [zstep, zif, hp, zcmpB, hc, Int32.not_le, Int32.not_lt, zcmp_h1, zcmp_h2]
  · rw [if_neg hc]; refine zG_step hd (p := pc + 3) ?_ h2; simp [zstep, zif, hp, zcmpB, hc, Int32.not_le, Int32.not_lt, zcmp_h1, zcmp_h2]
theorem zG_cne {α : Type} {sc : ZS} {d y pc : Nat} {ls : List Slot} {M : ZI} {R : ZF} {L : ZY} {E : α → Option Value → ZH → Prop} {st : List Value} {p1 p2 : Nat} {o1 o2 : Option α} {off : Int} {a b : Int32} (hd : zdec y pc = some (.if_icmp .ne off, 3)) (hp : (pc : Int) + off = (p1 : Int)) (hq : pc + 3 = p2) (h1 : zG sc d y p1 ls st (M, R, L) o1 E) (h2 : zG sc d y p2 ls st (M, R, L) o2 E) : zG sc d y pc ls (.int b :: .int a :: st) (M, R, L) (if a = b then o2 else o1) E := by
  subst hq
  by_cases hc : a = b
  · rw [if_pos hc]; refine zG_step hd (p := pc + 3) ?_ h2; simp [zstep, zif, hp, zcmpB, hc, Int32.not_le, Int32.not_lt, zcmp_h1, zcmp_h2]
  · rw [if_neg hc]; refine zG_step hd (p := p1) ?_ h1; simp [zstep, zif, hp, zcmpB, hc, Int32.not_le, Int32.not_lt, zcmp_h1, zcmp_h2]
theorem zG_clt {α : Type} {sc : ZS} {d y pc : Nat} {ls : List Slot} {M : ZI} {R : ZF} {L : ZY} {E : α → Option Value → ZH → Prop} {st : List Value} {p1 p2 : Nat} {o1 o2 : Option α} {off : Int} {a b : Int32} (hd : zdec y pc = some (.if_icmp .lt off, 3)) (hp : (pc : Int) + off = (p1 : Int)) (hq : pc + 3 = p2) (h1 : zG sc d y p1 ls st (M, R, L) o1 E) (h2 : zG sc d y p2 ls st (M, R, L) o2 E) : zG sc d y pc ls (.int b :: .int a :: st) (M, R, L) (if a < b then o1 else o2) E := by
  subst hq
  by_cases hc : a < b
  · rw [if_pos hc]; refine zG_step hd (p := p1) ?_ h1; simp [zstep, zif, hp, zcmpB, hc, Int32.not_le, Int32.not_lt, zcmp_h1, zcmp_h2]
  · rw [if_neg hc]; refine zG_step hd (p := pc + 3) ?_ h2; simp [zstep, zif, hp, zcmpB, hc, Int32.not_le, Int32.not_lt, zcmp_h1, zcmp_h2]
theorem zG_cge {α : Type} {sc : ZS} {d y pc : Nat} {ls : List Slot} {M : ZI} {R : ZF} {L : ZY} {E : α → Option Value → ZH → Prop} {st : List Value} {p1 p2 : Nat} {o1 o2 : Option α} {off : Int} {a b : Int32} (hd : zdec y pc = some (.if_icmp .ge off, 3)) (hp : (pc : Int) + off = (p1 : Int)) (hq : pc + 3 = p2) (h1 : zG sc d y p1 ls st (M, R, L) o1 E) (h2 : zG sc d y p2 ls st (M, R, L) o2 E) : zG sc d y pc ls (.int b :: .int a :: st) (M, R, L) (if a < b then o2 else o1) E := by
  subst hq
  by_cases hc : a < b
  · rw [if_pos hc]; refine zG_step hd (p := pc + 3) ?_ h2; simp [zstep, zif, hp, zcmpB, hc, Int32.not_le, Int32.not_lt, zcmp_h1, zcmp_h2]
  · rw [if_neg hc]; refine zG_step hd (p := p1) ?_ h1; simp [zstep, zif, hp, zcmpB, hc, Int32.not_le, Int32.not_lt, zcmp_h1, zcmp_h2]
theorem zG_cgt {α : Type} {sc : ZS} {d y pc : Nat} {ls : List Slot} {M : ZI} {R : ZF} {L : ZY} {E : α → Option Value → ZH → Prop} {st : List Value} {p1 p2 : Nat} {o1 o2 : Option α} {off : Int} {a b : Int32} (hd : zdec y pc = some (.if_icmp .gt off, 3)) (hp : (pc : Int) + off = (p1 : Int)) (hq : pc + 3 = p2) (h1 : zG sc d y p1 ls st (M, R, L) o1 E) (h2 : zG sc d y p2 ls st (M, R, L) o2 E) : zG sc d y pc ls (.int b :: .int a :: st) (M, R, L) (if b < a then o1 else o2) E := by
  subst hq
  by_cases hc : b < a
  · rw [if_pos hc]; refine zG_step hd (p := p1) ?_ h1; simp [zstep, zif, hp, zcmpB, hc, Int32.not_le, Int32.not_lt, zcmp_h1, zcmp_h2]
  · rw [if_neg hc]; refine zG_step hd (p := pc + 3) ?_ h2; simp [zstep, zif, hp, zcmpB, hc, Int32.not_le, Int32.not_lt, zcmp_h1, zcmp_h2]
theorem zG_cle {α : Type} {sc : ZS} {d y pc : Nat} {ls : List Slot} {M : ZI} {R : ZF} {L : ZY} {E : α → Option Value → ZH → Prop} {st : List Value} {p1 p2 : Nat} {o1 o2 : Option α} {off : Int} {a b : Int32} (hd : zdec y pc = some (.if_icmp .le off, 3)) (hp : (pc : Int) + off = (p1 : Int)) (hq : pc + 3 = p2) (h1 : zG sc d y p1 ls st (M, R, L) o1 E) (h2 : zG sc d y p2 ls st (M, R, L) o2 E) : zG sc d y pc ls (.int b :: .int a :: st) (M, R, L) (if b < a then o2 else o1) E := by
  subst hq
  by_cases hc : b < a
  · rw [if_pos hc]; refine zG_step hd (p := pc + 3) ?_ h2; simp [zstep, zif, hp, zcmpB, hc, Int32.not_le, Int32.not_lt, zcmp_h1, zcmp_h2]
  · rw [if_neg hc]; refine zG_step hd (p := p1) ?_ h1; simp [zstep, zif, hp, zcmpB, hc, Int32.not_le, Int32.not_lt, zcmp_h1, zcmp_h2]
theorem zG_zeq {α : Type} {sc : ZS} {d y pc : Nat} {ls : List Slot} {M : ZI} {R : ZF} {L : ZY} {E : α → Option Value → ZH → Prop} {st : List Value} {p1 p2 : Nat} {o1 o2 : Option α} {off : Int} {a : Int32} (hd : zdec y pc = some (.ifCond .eq off, 3)) (hp : (pc : Int) + off = (p1 : Int)) (hq : pc + 3 = p2) (h1 : zG sc d y p1 ls st (M, R, L) o1 E) (h2 : zG sc d y p2 ls st (M, R, L) o2 E) : zG sc d y pc ls (.int a :: st) (M, R, L) (if a = 0 then o1 else o2) E := by
  subst hq
  by_cases hc : a = 0
  · rw [if_pos hc]; refine zG_step hd (p := p1) ?_ h1; simp [zstep, zif, hp, zcmpB, hc, Int32.not_le, Int32.not_lt, zcmp_h1, zcmp_h2]
  · rw [if_neg hc]; refine zG_step hd (p := pc + 3) ?_ h2; simp [zstep, zif, hp, zcmpB, hc, Int32.not_le, Int32.not_lt, zcmp_h1, zcmp_h2]
theorem zG_zne {α : Type} {sc : ZS} {d y pc : Nat} {ls : List Slot} {M : ZI} {R : ZF} {L : ZY} {E : α → Option Value → ZH → Prop} {st : List Value} {p1 p2 : Nat} {o1 o2 : Option α} {off : Int} {a : Int32} (hd : zdec y pc = some (.ifCond .ne off, 3)) (hp : (pc : Int) + off = (p1 : Int)) (hq : pc + 3 = p2) (h1 : zG sc d y p1 ls st (M, R, L) o1 E) (h2 : zG sc d y p2 ls st (M, R, L) o2 E) : zG sc d y pc ls (.int a :: st) (M, R, L) (if a = 0 then o2 else o1) E := by
  subst hq
  by_cases hc : a = 0
  · rw [if_pos hc]; refine zG_step hd (p := pc + 3) ?_ h2; simp [zstep, zif, hp, zcmpB, hc, Int32.not_le, Int32.not_lt, zcmp_h1, zcmp_h2]
  · rw [if_neg hc]; refine zG_step hd (p := p1) ?_ h1; simp [zstep, zif, hp, zcmpB, hc, Int32.not_le, Int32.not_lt, zcmp_h1, zcmp_h2]
theorem zG_zlt {α : Type} {sc : ZS} {d y pc : Nat} {ls : List Slot} {M : ZI} {R : ZF} {L : ZY} {E : α → Option Value → ZH → Prop} {st : List Value} {p1 p2 : Nat} {o1 o2 : Option α} {off : Int} {a : Int32} (hd : zdec y pc = some (.ifCond .lt off, 3)) (hp : (pc : Int) + off = (p1 : Int)) (hq : pc + 3 = p2) (h1 : zG sc d y p1 ls st (M, R, L) o1 E) (h2 : zG sc d y p2 ls st (M, R, L) o2 E) : zG sc d y pc ls (.int a :: st) (M, R, L) (if a < 0 then o1 else o2) E := by
  subst hq
  by_cases hc : a < 0
  · rw [if_pos hc]; refine zG_step hd (p := p1) ?_ h1; simp [zstep, zif, hp, zcmpB, hc, Int32.not_le, Int32.not_lt, zcmp_h1, zcmp_h2]
  · rw [if_neg hc]; refine zG_step hd (p := pc + 3) ?_ h2; simp [zstep, zif, hp, zcmpB, hc, Int32.not_le, Int32.not_lt, zcmp_h1, zcmp_h2]
theorem zG_zge {α : Type} {sc : ZS} {d y pc : Nat} {ls : List Slot} {M : ZI} {R : ZF} {L : ZY} {E : α → Option Value → ZH → Prop} {st : List Value} {p1 p2 : Nat} {o1 o2 : Option α} {off : Int} {a : Int32} (hd : zdec y pc = some (.ifCond .ge off, 3)) (hp : (pc : Int) + off = (p1 : Int)) (hq : pc + 3 = p2) (h1 : zG sc d y p1 ls st (M, R, L) o1 E) (h2 : zG sc d y p2 ls st (M, R, L) o2 E) : zG sc d y pc ls (.int a :: st) (M, R, L) (if a < 0 then o2 else o1) E := by
  subst hq
  by_cases hc : a < 0
  · rw [if_pos hc]; refine zG_step hd (p := pc + 3) ?_ h2; simp [zstep, zif, hp, zcmpB, hc, Int32.not_le, Int32.not_lt, zcmp_h1, zcmp_h2]
  · rw [if_neg hc]; refine zG_step hd (p := p1) ?_ h1; simp [zstep, zif, hp, zcmpB, hc, Int32.not_le, Int32.not_lt, zcmp_h1, zcmp_h2]
theorem zG_zgt {α : Type} {sc : ZS} {d y pc : Nat} {ls : List Slot} {M : ZI} {R : ZF} {L : ZY} {E : α → Option Value → ZH → Prop} {st : List Value} {p1 p2 : Nat} {o1 o2 : Option α} {off : Int} {a : Int32} (hd : zdec y pc = some (.ifCond .gt off, 3)) (hp : (pc : Int) + off = (p1 : Int)) (hq : pc + 3 = p2) (h1 : zG sc d y p1 ls st (M, R, L) o1 E) (h2 : zG sc d y p2 ls st (M, R, L) o2 E) : zG sc d y pc ls (.int a :: st) (M, R, L) (if 0 < a then o1 else o2) E := by
  subst hq
  by_cases hc : 0 < a
  · rw [if_pos hc]; refine zG_step hd (p := p1) ?_ h1; simp [zstep, zif, hp, zcmpB, hc, Int32.not_le, Int32.not_lt, zcmp_h1, zcmp_h2]
  · rw [if_neg hc]; refine zG_step hd (p := pc + 3) ?_ h2; simp [zstep, zif, hp, zcmpB, hc, Int32.not_le, Int32.not_lt, zcmp_h1, zcmp_h2]
theorem zG_zle {α : Type} {sc : ZS} {d y pc : Nat} {ls : List Slot} {M : ZI} {R : ZF} {L : ZY} {E : α → Option Value → ZH → Prop} {st : List Value} {p1 p2 : Nat} {o1 o2 : Option α} {off : Int} {a : Int32} (hd : zdec y pc = some (.ifCond .le off, 3)) (hp : (pc : Int) + off = (p1 : Int)) (hq : pc + 3 = p2) (h1 : zG sc d y p1 ls st (M, R, L) o1 E) (h2 : zG sc d y p2 ls st (M, R, L) o2 E) : zG sc d y pc ls (.int a :: st) (M, R, L) (if 0 < a then o2 else o1) E := by
  subst hq
  by_cases hc : 0 < a
  · rw [if_pos hc]; refine zG_step hd (p := pc + 3) ?_ h2; simp [zstep, zif, hp, zcmpB, hc, Int32.not_le, Int32.not_lt, zcmp_h1, zcmp_h2]
  · rw [if_neg hc]; refine zG_step hd (p := p1) ?_ h1; simp [zstep, zif, hp, zcmpB, hc, Int32.not_le, Int32.not_lt, zcmp_h1, zcmp_h2]
theorem zG_nn_ref {α : Type} {sc : ZS} {d y pc p : Nat} {ls : List Slot} {M : ZI} {R : ZF} {L : ZY} {E : α → Option Value → ZH → Prop} {o : Option α} {st : List Value} {off : Int} {x : Nat} (hd : zdec y pc = some (.ifnonnull off, 3)) (hp : (pc : Int) + off = (p : Int)) (k : zG sc d y p ls st (M, R, L) o E) : zG sc d y pc ls (.ref x :: st) (M, R, L) o E := by
  exact zG_step hd (by simp only [zstep, zto, hp, if_true]; simp) k
theorem zG_nu_ref {α : Type} {sc : ZS} {d y pc p : Nat} {ls : List Slot} {M : ZI} {R : ZF} {L : ZY} {E : α → Option Value → ZH → Prop} {o : Option α} {st : List Value} {off : Int} {x : Nat} (hd : zdec y pc = some (.ifnull off, 3)) (hp : pc + 3 = p) (k : zG sc d y p ls st (M, R, L) o E) : zG sc d y pc ls (.ref x :: st) (M, R, L) o E := by
  subst hp; exact zG_step hd (by simp [zstep]) k
theorem zG_nn_null {α : Type} {sc : ZS} {d y pc p : Nat} {ls : List Slot} {M : ZI} {R : ZF} {L : ZY} {E : α → Option Value → ZH → Prop} {o : Option α} {st : List Value} {off : Int} (hd : zdec y pc = some (.ifnonnull off, 3)) (hp : pc + 3 = p) (k : zG sc d y p ls st (M, R, L) o E) : zG sc d y pc ls (.null :: st) (M, R, L) o E := by
  subst hp; exact zG_step hd (by simp [zstep]) k
theorem zG_nu_null {α : Type} {sc : ZS} {d y pc p : Nat} {ls : List Slot} {M : ZI} {R : ZF} {L : ZY} {E : α → Option Value → ZH → Prop} {o : Option α} {st : List Value} {off : Int} (hd : zdec y pc = some (.ifnull off, 3)) (hp : (pc : Int) + off = (p : Int)) (k : zG sc d y p ls st (M, R, L) o E) : zG sc d y pc ls (.null :: st) (M, R, L) o E := by
  exact zG_step hd (by simp only [zstep, zto, hp, if_true]; simp) k
theorem zG_gi {α : Type} {sc : ZS} {d y pc p : Nat} {ls : List Slot} {M : ZI} {R : ZF} {L : ZY} {E : α → Option Value → ZH → Prop} {o : Option α} {st : List Value} {ix w c k a : Nat} (hd : zdec y pc = some (.getfield ix, 3)) (hw : zown y = w) (hf : zfld w ix = some (c, k) ∧ k < zN c ∧ ¬ zfk c k = 2) (ho : gob L a c = true) (hp : pc + 3 = p) (kk : zG sc d y p ls (.int (M a k) :: st) (M, R, L) o E) : zG sc d y pc ls (.ref a :: st) (M, R, L) o E := by
  subst hp; subst hw
  obtain ⟨h1, n, h2⟩ := gob_sp ho
  exact zG_step hd (by simp [zstep, zget, hf.1, hf.2, h1, h2]) kk
theorem zG_gro {α : Type} {sc : ZS} {d y pc p : Nat} {ls : List Slot} {M : ZI} {R : ZF} {L : ZY} {E : α → Option Value → ZH → Prop} {o : Option α} {st : List Value} {ix w c k a : Nat} (hd : zdec y pc = some (.getfield ix, 3)) (hw : zown y = w) (hf : zfld w ix = some (c, k) ∧ k < zN c ∧ zfk c k = 2) (ho : gob L a c = true) (hp : pc + 3 = p) (kk : zG sc d y p ls (va_rf (R a k) :: st) (M, R, L) o E) : zG sc d y pc ls (.ref a :: st) (M, R, L) o E := by
  subst hp; subst hw
  obtain ⟨h1, n, h2⟩ := gob_sp ho
  exact zG_step hd (by simp [zstep, zget, hf.1, hf.2, h1, h2]) kk
theorem zG_grb {α : Type} {sc : ZS} {d y pc p : Nat} {ls : List Slot} {M : ZI} {R : ZF} {L : ZY} {E : α → Option Value → ZH → Prop} {st : List Value} {f : Nat → Option α} {ix w c k a : Nat} (hd : zdec y pc = some (.getfield ix, 3)) (hw : zown y = w) (hf : zfld w ix = some (c, k) ∧ k < zN c ∧ zfk c k = 2) (ho : gob L a c = true) (hp : pc + 3 = p) (kk : ∀ r, zG sc d y p ls (.ref r :: st) (M, R, L) (f r) E) : zG sc d y pc ls (.ref a :: st) (M, R, L) ((R a k).bind f) E := by
  refine zG_dr fun r hr => zG_gro hd hw hf ho hp ?_
  rw [hr]
  exact kk r
theorem zG_sgi {α : Type} {sc : ZS} {d y pc p : Nat} {ls : List Slot} {M : ZI} {R : ZF} {L : ZY} {E : α → Option Value → ZH → Prop} {o : Option α} {st : List Value} {w a : Nat} (hd : zdec y pc = some (.getfield 15, 3)) (hw : zown y = w) (hw2 : w = 12) (hf : zfld 12 15 = some (12, 1) ∧ 1 < zN 12 ∧ ¬ zfk 12 1 = 2) (ho : gos L a = true) (hp : pc + 3 = p) (kk : zG sc d y p ls (.int (gsI M a 1) :: st) (M, R, L) o E) : zG sc d y pc ls (.ref a :: st) (M, R, L) o E := by
  subst hw2
  unfold gos at ho
  unfold gsI at kk
  by_cases h9 : a < 1000000
  · rw [if_pos h9] at ho kk
    exact zG_gi hd hw hf ho hp kk
  · rw [if_neg h9] at ho kk
    have h2 := of_decide_eq_true ho
    have h3 : zjf (zown y) 15 = some 1 := by rw [hw]; rfl
    subst hp
    refine zG_step hd ?_ kk
    simp only [zstep, if_true, zget, if_neg h9, if_pos h2, h3]
theorem zG_sgb {α : Type} {sc : ZS} {d y pc p : Nat} {ls : List Slot} {M : ZI} {R : ZF} {L : ZY} {E : α → Option Value → ZH → Prop} {st : List Value} {f : Nat → Option α} {w a : Nat} (hd : zdec y pc = some (.getfield 9, 3)) (hw : zown y = w) (hw2 : w = 12) (hf : zfld 12 9 = some (12, 0) ∧ 0 < zN 12 ∧ zfk 12 0 = 2) (ho : gos L a = true) (hp : pc + 3 = p) (kk : ∀ r, zG sc d y p ls (.ref r :: st) (M, R, L) (f r) E) : zG sc d y pc ls (.ref a :: st) (M, R, L) ((gsR R a 0).bind f) E := by
  subst hw2
  unfold gos at ho
  unfold gsR
  by_cases h9 : a < 1000000
  · rw [if_pos h9] at ho ⊢
    exact zG_grb hd hw hf ho hp kk
  · rw [if_neg h9] at ho ⊢
    have h2 := of_decide_eq_true ho
    have h3 : zjf (zown y) 9 = some 0 := by rw [hw]; rfl
    subst hp
    refine zG_step hd ?_ (kk (a + 1000000))
    simp only [zstep, if_true, zget, if_neg h9, if_pos h2, h3]
theorem zG_pi {α : Type} {sc : ZS} {d y pc p : Nat} {ls : List Slot} {M : ZI} {R : ZF} {L : ZY} {E : α → Option Value → ZH → Prop} {f : ZI → Option α} {st : List Value} {ix w c k a : Nat} {x : Int32} (hd : zdec y pc = some (.putfield ix, 3)) (hw : zown y = w) (hf : zfld w ix = some (c, k) ∧ k < zN c ∧ ¬ zfk c k = 2) (hx : zfk c k = 0 ∨ x = 0 ∨ x = 1) (h3 : zfk c k = 0 ∨ zfk c k = 1 ∨ zfk c k = 3) (hfo : zfo y c k = true) (ho : gob L a c = true) (hp : pc + 3 = p) (kk : ∀ M, zG sc d y p ls st (M, R, L) (f M) E) : zG sc d y pc ls (.int x :: .ref a :: st) (M, R, L) (zlet (zs M a k x) f) E := by
  subst hp; subst hw
  obtain ⟨h1, n, h2⟩ := gob_sp ho
  refine zG_step hd ?_ (kk _)
  simp only [zstep, if_true, zput, hf.1, h2]
  rw [if_pos ⟨trivial, hf.2.1, by rcases h3 with h | h | h <;> rcases hx with g | g <;> first | exact Or.inl h | exact Or.inl g | exact Or.inr ⟨Or.inl h, g⟩ | exact Or.inr ⟨Or.inr h, g⟩, hfo⟩]
  rfl
theorem zG_pr {α : Type} {sc : ZS} {d y pc p : Nat} {ls : List Slot} {M : ZI} {R : ZF} {L : ZY} {E : α → Option Value → ZH → Prop} {f : ZF → Option α} {st : List Value} {ix w c k a r : Nat} (hd : zdec y pc = some (.putfield ix, 3)) (hw : zown y = w) (hf : zfld w ix = some (c, k) ∧ k < zN c ∧ zfk c k = 2) (hfo : zfo y c k = true) (ho : gob L a c = true) (hr : gin r = true) (hp : pc + 3 = p) (kk : ∀ R, zG sc d y p ls st (M, R, L) (f R) E) : zG sc d y pc ls (.ref r :: .ref a :: st) (M, R, L) (zlet (zr R a k (some r)) f) E := by
  subst hp; subst hw
  obtain ⟨h1, n, h2⟩ := gob_sp ho
  refine zG_step hd ?_ (kk _)
  simp only [zstep, if_true, zput, hf.1, h2]
  rw [if_pos ⟨trivial, hf.2.1, hf.2.2, hfo, Nat.blt_eq.mp hr⟩]
  rfl
theorem zG_pn {α : Type} {sc : ZS} {d y pc p : Nat} {ls : List Slot} {M : ZI} {R : ZF} {L : ZY} {E : α → Option Value → ZH → Prop} {f : ZF → Option α} {st : List Value} {ix w c k a : Nat} (hd : zdec y pc = some (.putfield ix, 3)) (hw : zown y = w) (hf : zfld w ix = some (c, k) ∧ k < zN c ∧ zfk c k = 2) (hfo : zfo y c k = true) (ho : gob L a c = true) (hp : pc + 3 = p) (kk : ∀ R, zG sc d y p ls st (M, R, L) (f R) E) : zG sc d y pc ls (.null :: .ref a :: st) (M, R, L) (zlet (zr R a k none) f) E := by
  subst hp; subst hw
  obtain ⟨h1, n, h2⟩ := gob_sp ho
  refine zG_step hd ?_ (kk _)
  simp only [zstep, if_true, zput, hf.1, h2]
  rw [if_pos ⟨trivial, hf.2.1, hf.2.2, hfo⟩]
  rfl
theorem zG_po {α : Type} {sc : ZS} {d y pc p : Nat} {ls : List Slot} {M : ZI} {R : ZF} {L : ZY} {E : α → Option Value → ZH → Prop} {f : ZF → Option α} {st : List Value} {ix w c k a : Nat} {x : Option Nat} (hd : zdec y pc = some (.putfield ix, 3)) (hw : zown y = w) (hf : zfld w ix = some (c, k) ∧ k < zN c ∧ zfk c k = 2) (hfo : zfo y c k = true) (ho : gob L a c = true) (hr : gio x = true) (hp : pc + 3 = p) (kk : ∀ R, zG sc d y p ls st (M, R, L) (f R) E) : zG sc d y pc ls (va_rf x :: .ref a :: st) (M, R, L) (zlet (zr R a k x) f) E := by
  cases x with
  | none => exact zG_pn hd hw hf hfo ho hp kk
  | some r => exact zG_pr hd hw hf hfo ho hr hp kk
theorem zG_ia {α : Type} {sc : ZS} {d y pc p : Nat} {ls : List Slot} {M : ZI} {R : ZF} {L : ZY} {E : α → Option Value → ZH → Prop} {o : Option α} {st : List Value} {a : Nat} {i : Int32} (hd : zdec y pc = some (.iaload, 1)) (ha : gar L a 0 i = true) (hp : pc + 1 = p) (kk : zG sc d y p ls (.int (M a (zi i)) :: st) (M, R, L) o E) : zG sc d y pc ls (.int i :: .ref a :: st) (M, R, L) o E := by
  subst hp
  obtain ⟨h1, h2, h3⟩ := gar_sp ha
  have hm : ¬ a = 1000000 := by omega
  exact zG_step hd (by simp only [zstep, zald, if_true, if_neg hm, if_pos h1, h2]; rw [if_pos ⟨by decide, h3⟩]; rfl) kk
theorem zG_ba {α : Type} {sc : ZS} {d y pc p : Nat} {ls : List Slot} {M : ZI} {R : ZF} {L : ZY} {E : α → Option Value → ZH → Prop} {o : Option α} {st : List Value} {a : Nat} {i : Int32} (hd : zdec y pc = some (.baload, 1)) (ha : gab L a i = true) (hp : pc + 1 = p) (kk : zG sc d y p ls (.int (gbI M a (zi i)) :: st) (M, R, L) o E) : zG sc d y pc ls (.int i :: .ref a :: st) (M, R, L) o E := by
  subst hp
  unfold gab at ha
  unfold gbI at kk
  by_cases h9 : a < 1000000
  · rw [if_pos h9] at ha kk
    obtain ⟨h1, h2, h3⟩ := gar_sp ha
    have hm : ¬ a = 1000000 := by omega
    exact zG_step hd (by simp only [zstep, zald, if_true, if_neg hm, if_pos h1, h2]; rw [if_pos ⟨by decide, h3⟩]; rfl) kk
  · rw [if_neg h9] at ha kk
    rw [Bool.and_eq_true] at ha
    have h1 := of_decide_eq_true ha.1
    have h2 := of_decide_eq_true ha.2
    have hm : ¬ a = 1000000 := by omega
    exact zG_step hd (by simp only [zstep, zald, if_true, if_neg hm, if_neg h9]; rw [if_pos ⟨trivial, h1.1, h1.2, h2⟩]; rfl) kk
theorem zG_aa51 {α : Type} {sc : ZS} {d y pc p : Nat} {ls : List Slot} {M : ZI} {R : ZF} {L : ZY} {E : α → Option Value → ZH → Prop} {st : List Value} {f : Nat → Option α} {a : Nat} {i : Int32} (hd : zdec y pc = some (.aaload, 1)) (ha : gar L a 51 i = true) (hp : pc + 1 = p) (kk : ∀ r, zG sc d y p ls (.ref r :: st) (M, R, L) (f r) E) : zG sc d y pc ls (.int i :: .ref a :: st) (M, R, L) ((R a (zi i)).bind f) E := by
  subst hp
  obtain ⟨h1, h2, h3⟩ := gar_sp ha
  have hm : ¬ a = 1000000 := by omega
  refine zG_dr fun r hr => ?_
  refine zG_step hd (st' := .ref r :: st) ?_ (kk r)
  simp only [zstep, zald, if_true, if_neg hm, if_pos h1, h2]
  rw [if_pos ⟨by decide, h3⟩]
  simp only [zi] at hr
  rw [hr]
  rfl
theorem zG_aa52 {α : Type} {sc : ZS} {d y pc p : Nat} {ls : List Slot} {M : ZI} {R : ZF} {L : ZY} {E : α → Option Value → ZH → Prop} {st : List Value} {f : Nat → Option α} {a : Nat} {i : Int32} (hd : zdec y pc = some (.aaload, 1)) (ha : gar L a 52 i = true) (hp : pc + 1 = p) (kk : ∀ r, zG sc d y p ls (.ref r :: st) (M, R, L) (f r) E) : zG sc d y pc ls (.int i :: .ref a :: st) (M, R, L) ((R a (zi i)).bind f) E := by
  subst hp
  obtain ⟨h1, h2, h3⟩ := gar_sp ha
  have hm : ¬ a = 1000000 := by omega
  refine zG_dr fun r hr => ?_
  refine zG_step hd (st' := .ref r :: st) ?_ (kk r)
  simp only [zstep, zald, if_true, if_neg hm, if_pos h1, h2]
  rw [if_pos ⟨by decide, h3⟩]
  simp only [zi] at hr
  rw [hr]
  rfl
theorem zG_sa {α : Type} {sc : ZS} {d y pc p : Nat} {ls : List Slot} {M : ZI} {R : ZF} {L : ZY} {E : α → Option Value → ZH → Prop} {o : Option α} {st : List Value} {i : Int32} (hd : zdec y pc = some (.iaload, 1)) (hi : zin i sc.1 = true) (hp : pc + 1 = p) (kk : zG sc d y p ls (.int (sc.2 (zi i)) :: st) (M, R, L) o E) : zG sc d y pc ls (.int i :: .ref 1000000 :: st) (M, R, L) o E := by
  subst hp
  have hi := of_decide_eq_true hi
  exact zG_step hd (by simp only [zstep, zald, if_true]; rw [if_pos ⟨trivial, hi⟩]; rfl) kk
theorem zG_sl {α : Type} {sc : ZS} {d y pc p : Nat} {ls : List Slot} {M : ZI} {R : ZF} {L : ZY} {E : α → Option Value → ZH → Prop} {o : Option α} {st : List Value} (hd : zdec y pc = some (.arraylength, 1)) (hp : pc + 1 = p) (kk : zG sc d y p ls (.int (Int32.ofNat sc.1) :: st) (M, R, L) o E) : zG sc d y pc ls (.ref 1000000 :: st) (M, R, L) o E := by
  subst hp
  exact zG_step hd (by simp [zstep, zlen]) kk
theorem zG_len0 {α : Type} {sc : ZS} {d y pc p : Nat} {ls : List Slot} {M : ZI} {R : ZF} {L : ZY} {E : α → Option Value → ZH → Prop} {o : Option α} {st : List Value} {a : Nat} (hd : zdec y pc = some (.arraylength, 1)) (ha : gak L a 0 = true) (hp : pc + 1 = p) (kk : zG sc d y p ls (.int (Int32.ofNat (gln L a)) :: st) (M, R, L) o E) : zG sc d y pc ls (.ref a :: st) (M, R, L) o E := by
  subst hp
  obtain ⟨h1, h2⟩ := gak_sp ha
  have hm : ¬ a = 1000000 := by omega
  exact zG_step hd (by simp [zstep, zlen, h1, h2, hm, show zarr 0 = true from rfl]) kk
theorem zG_len51 {α : Type} {sc : ZS} {d y pc p : Nat} {ls : List Slot} {M : ZI} {R : ZF} {L : ZY} {E : α → Option Value → ZH → Prop} {o : Option α} {st : List Value} {a : Nat} (hd : zdec y pc = some (.arraylength, 1)) (ha : gak L a 51 = true) (hp : pc + 1 = p) (kk : zG sc d y p ls (.int (Int32.ofNat (gln L a)) :: st) (M, R, L) o E) : zG sc d y pc ls (.ref a :: st) (M, R, L) o E := by
  subst hp
  obtain ⟨h1, h2⟩ := gak_sp ha
  have hm : ¬ a = 1000000 := by omega
  exact zG_step hd (by simp [zstep, zlen, h1, h2, hm, show zarr 51 = true from rfl]) kk
theorem zG_len52 {α : Type} {sc : ZS} {d y pc p : Nat} {ls : List Slot} {M : ZI} {R : ZF} {L : ZY} {E : α → Option Value → ZH → Prop} {o : Option α} {st : List Value} {a : Nat} (hd : zdec y pc = some (.arraylength, 1)) (ha : gak L a 52 = true) (hp : pc + 1 = p) (kk : zG sc d y p ls (.int (Int32.ofNat (gln L a)) :: st) (M, R, L) o E) : zG sc d y pc ls (.ref a :: st) (M, R, L) o E := by
  subst hp
  obtain ⟨h1, h2⟩ := gak_sp ha
  have hm : ¬ a = 1000000 := by omega
  exact zG_step hd (by simp [zstep, zlen, h1, h2, hm, show zarr 52 = true from rfl]) kk
theorem zG_blen {α : Type} {sc : ZS} {d y pc p : Nat} {ls : List Slot} {M : ZI} {R : ZF} {L : ZY} {E : α → Option Value → ZH → Prop} {o : Option α} {st : List Value} {a : Nat} (hd : zdec y pc = some (.arraylength, 1)) (ha : gbk L a = true) (hp : pc + 1 = p) (kk : zG sc d y p ls (.int (Int32.ofNat (gbl L a)) :: st) (M, R, L) o E) : zG sc d y pc ls (.ref a :: st) (M, R, L) o E := by
  subst hp
  unfold gbk at ha
  unfold gbl at kk
  by_cases h9 : a < 1000000
  · rw [if_pos h9] at ha kk
    obtain ⟨h1, h2⟩ := gak_sp ha
    have hm : ¬ a = 1000000 := by omega
    exact zG_step hd (by simp [zstep, zlen, h1, h2, hm, show zarr 50 = true from rfl]) kk
  · rw [if_neg h9] at ha kk
    have h1 := of_decide_eq_true ha
    have hm : ¬ a = 1000000 := by omega
    exact zG_step hd (by simp only [zstep, if_true, zlen, if_neg h9, if_neg hm, if_pos h1]) kk
theorem zG_ist {α : Type} {sc : ZS} {d y pc p : Nat} {ls : List Slot} {M : ZI} {R : ZF} {L : ZY} {E : α → Option Value → ZH → Prop} {f : ZI → Option α} {st : List Value} {a : Nat} {i x : Int32} (hd : zdec y pc = some (.iastore, 1)) (ha : gar L a 0 i = true) (hp : pc + 1 = p) (kk : ∀ M, zG sc d y p ls st (M, R, L) (f M) E) : zG sc d y pc ls (.int x :: .int i :: .ref a :: st) (M, R, L) (zlet (zs M a (zi i) x) f) E := by
  subst hp
  obtain ⟨h1, h2, h3⟩ := gar_sp ha
  exact zG_step hd (by simp only [zstep, zast, if_true, h2]; rw [if_pos ⟨by decide, by decide, h3⟩]; rfl) (kk _)
theorem zG_bst {α : Type} {sc : ZS} {d y pc p : Nat} {ls : List Slot} {M : ZI} {R : ZF} {L : ZY} {E : α → Option Value → ZH → Prop} {f : ZI → Option α} {st : List Value} {a : Nat} {i x : Int32} (hd : zdec y pc = some (.bastore, 1)) (ha : gar L a 50 i = true) (hp : pc + 1 = p) (kk : ∀ M, zG sc d y p ls st (M, R, L) (f M) E) : zG sc d y pc ls (.int x :: .int i :: .ref a :: st) (M, R, L) (zlet (zs M a (zi i) (zby x)) f) E := by
  subst hp
  obtain ⟨h1, h2, h3⟩ := gar_sp ha
  exact zG_step hd (by simp only [zstep, zast, if_true, h2]; rw [if_pos ⟨by decide, by decide, h3⟩]; rfl) (kk _)
theorem zG_ast51 {α : Type} {sc : ZS} {d y pc p : Nat} {ls : List Slot} {M : ZI} {R : ZF} {L : ZY} {E : α → Option Value → ZH → Prop} {f : ZF → Option α} {st : List Value} {a v : Nat} {i : Int32} (hd : zdec y pc = some (.aastore, 1)) (ha : gar L a 51 i = true) (hv : gek L v 0 = true) (hp : pc + 1 = p) (kk : ∀ R, zG sc d y p ls st (M, R, L) (f R) E) : zG sc d y pc ls (.ref v :: .int i :: .ref a :: st) (M, R, L) (zlet (zr R a (zi i) (some v)) f) E := by
  subst hp
  obtain ⟨h1, h2, h3⟩ := gar_sp ha
  unfold gek at hv
  refine zG_step hd ?_ (kk _)
  cases hq : L[v]? with
  | none => rw [hq] at hv; simp at hv
  | some q =>
    rw [hq] at hv
    have h4 := Nat.beq_eq.mp hv
    simp only [zstep, zast, if_true, h2, hq]
    rw [if_pos ⟨by decide, trivial, h4, h3⟩]
    rfl
theorem zG_ast52 {α : Type} {sc : ZS} {d y pc p : Nat} {ls : List Slot} {M : ZI} {R : ZF} {L : ZY} {E : α → Option Value → ZH → Prop} {f : ZF → Option α} {st : List Value} {a v : Nat} {i : Int32} (hd : zdec y pc = some (.aastore, 1)) (ha : gar L a 52 i = true) (hv : gek L v 13 = true) (hp : pc + 1 = p) (kk : ∀ R, zG sc d y p ls st (M, R, L) (f R) E) : zG sc d y pc ls (.ref v :: .int i :: .ref a :: st) (M, R, L) (zlet (zr R a (zi i) (some v)) f) E := by
  subst hp
  obtain ⟨h1, h2, h3⟩ := gar_sp ha
  unfold gek at hv
  refine zG_step hd ?_ (kk _)
  cases hq : L[v]? with
  | none => rw [hq] at hv; simp at hv
  | some q =>
    rw [hq] at hv
    have h4 := Nat.beq_eq.mp hv
    simp only [zstep, zast, if_true, h2, hq]
    rw [if_pos ⟨by decide, trivial, h4, h3⟩]
    rfl
theorem zG_ni {α : Type} {sc : ZS} {d y pc p : Nat} {ls : List Slot} {M : ZI} {R : ZF} {L : ZY} {E : α → Option Value → ZH → Prop} {f : Nat → ZI → ZF → ZY → Option α} {st : List Value} {n : Int32} (hd : zdec y pc = some (.newarray .int, 2)) (hn : gnn n = true) (hf : gfr L = true) (hp : pc + 2 = p) (kk : ∀ r M R L, zG sc d y p ls (.ref r :: st) (M, R, L) (f r M R L) E) : zG sc d y pc ls (.int n :: st) (M, R, L) (gnew M R L 0 (zi n) f) E := by
  subst hp
  have h1 := of_decide_eq_true hn
  have h2 := Nat.blt_eq.mp hf
  refine zG_step hd ?_ (kk _ _ _ _)
  simp only [zstep, if_true, zmka]
  rw [if_pos ⟨h1.1, h1.2, h2⟩]
  rfl
theorem zG_nb {α : Type} {sc : ZS} {d y pc p : Nat} {ls : List Slot} {M : ZI} {R : ZF} {L : ZY} {E : α → Option Value → ZH → Prop} {f : Nat → ZI → ZF → ZY → Option α} {st : List Value} {n : Int32} (hd : zdec y pc = some (.newarray .byte, 2)) (hn : gnn n = true) (hf : gfr L = true) (hp : pc + 2 = p) (kk : ∀ r M R L, zG sc d y p ls (.ref r :: st) (M, R, L) (f r M R L) E) : zG sc d y pc ls (.int n :: st) (M, R, L) (gnew M R L 50 (zi n) f) E := by
  subst hp
  have h1 := of_decide_eq_true hn
  have h2 := Nat.blt_eq.mp hf
  refine zG_step hd ?_ (kk _ _ _ _)
  simp only [zstep, if_true, zmka]
  rw [if_pos ⟨h1.1, h1.2, h2⟩]
  rfl
theorem zG_nr51 {α : Type} {sc : ZS} {d y pc p : Nat} {ls : List Slot} {M : ZI} {R : ZF} {L : ZY} {E : α → Option Value → ZH → Prop} {f : Nat → ZI → ZF → ZY → Option α} {st : List Value} {ix w : Nat} {n : Int32} (hd : zdec y pc = some (.anewarray ix, 3)) (hw : zown y = w) (hc : znew w ix = none ∧ zacl w ix = some 0) (hn : gnn n = true) (hf : gfr L = true) (hp : pc + 3 = p) (kk : ∀ r M R L, zG sc d y p ls (.ref r :: st) (M, R, L) (f r M R L) E) : zG sc d y pc ls (.int n :: st) (M, R, L) (gnew M R L 51 (zi n) f) E := by
  subst hp; subst hw
  have h1 := of_decide_eq_true hn
  have h2 := Nat.blt_eq.mp hf
  refine zG_step hd ?_ (kk _ _ _ _)
  simp only [zstep, if_true, hc.1, hc.2, zmka]
  rw [if_pos ⟨h1.1, h1.2, h2⟩]
  rfl
theorem zG_nr52 {α : Type} {sc : ZS} {d y pc p : Nat} {ls : List Slot} {M : ZI} {R : ZF} {L : ZY} {E : α → Option Value → ZH → Prop} {f : Nat → ZI → ZF → ZY → Option α} {st : List Value} {ix w : Nat} {n : Int32} (hd : zdec y pc = some (.anewarray ix, 3)) (hw : zown y = w) (hc : znew w ix = some 10) (hn : gnn n = true) (hf : gfr L = true) (hp : pc + 3 = p) (kk : ∀ r M R L, zG sc d y p ls (.ref r :: st) (M, R, L) (f r M R L) E) : zG sc d y pc ls (.int n :: st) (M, R, L) (gnew M R L 52 (zi n) f) E := by
  subst hp; subst hw
  have h1 := of_decide_eq_true hn
  have h2 := Nat.blt_eq.mp hf
  refine zG_step hd ?_ (kk _ _ _ _)
  simp only [zstep, if_true, hc]
  rw [if_neg (by decide)]
  simp only [zmka]
  rw [if_pos ⟨h1.1, h1.2, h2⟩]
  rfl
theorem zG_no {α : Type} {sc : ZS} {d y pc p : Nat} {ls : List Slot} {M : ZI} {R : ZF} {L : ZY} {E : α → Option Value → ZH → Prop} {f : Nat → ZI → ZF → ZY → Option α} {st : List Value} {ix w c n m : Nat} (hd : zdec y pc = some (.new ix, 3)) (hw : zown y = w) (hc : znew w ix = some c ∧ c < zCL.length ∧ zN c = n ∧ 3 + c = m) (hf : gfr L = true) (hp : pc + 3 = p) (kk : ∀ r M R L, zG sc d y p ls (.ref r :: st) (M, R, L) (f r M R L) E) : zG sc d y pc ls st (M, R, L) (gnew M R L m n f) E := by
  subst hp; subst hw
  obtain ⟨h1, h2, rfl, rfl⟩ := hc
  have h3 := Nat.blt_eq.mp hf
  refine zG_step hd ?_ (kk _ _ _ _)
  simp only [zstep, if_true, zmko, h1]
  rw [if_pos ⟨h2, h3⟩]
  rfl
theorem zG_cl0 {α : Type} {sc : ZS} {d y pc p : Nat} {ls : List Slot} {M : ZI} {R : ZF} {L : ZY} {E : α → Option Value → ZH → Prop} {f : Nat → ZI → ZF → ZY → Option α} {st : List Value} {ix w a : Nat} (hd : zdec y pc = some (.invokevirtual ix, 3)) (hw : zown y = w) (hr : zres w ix = some 1004) (ha : gak L a 0 = true) (hf : gfr L = true) (hz : zroom st = true) (hp : pc + 3 = p) (kk : ∀ r M R L, zG sc d y p ls (.ref r :: st) (M, R, L) (f r M R L) E) : zG sc d y pc ls (.ref a :: st) (M, R, L) (gcln M R L 0 a f) E := by
  subst hp; subst hw
  obtain ⟨h1, h2⟩ := gak_sp ha
  have h3 := Nat.blt_eq.mp hf
  refine zG_step hd ?_ (kk _ _ _ _)
  simp only [zstep, if_true, zcallV, hr]
  first | rw [if_pos trivial] | skip
  simp only [zclone, h2, Nat.reduceEqDiff, if_false]
  rw [if_pos ⟨trivial, hz, h3, Or.inl trivial⟩]
  rfl
theorem zG_cl50 {α : Type} {sc : ZS} {d y pc p : Nat} {ls : List Slot} {M : ZI} {R : ZF} {L : ZY} {E : α → Option Value → ZH → Prop} {f : Nat → ZI → ZF → ZY → Option α} {st : List Value} {ix w a : Nat} (hd : zdec y pc = some (.invokevirtual ix, 3)) (hw : zown y = w) (hr : zres w ix = some 1005) (ha : gak L a 50 = true) (hft : gfit M a 0 (gln L a) = true) (hf : gfr L = true) (hz : zroom st = true) (hp : pc + 3 = p) (kk : ∀ r M R L, zG sc d y p ls (.ref r :: st) (M, R, L) (f r M R L) E) : zG sc d y pc ls (.ref a :: st) (M, R, L) (gcln M R L 50 a f) E := by
  subst hp; subst hw
  obtain ⟨h1, h2⟩ := gak_sp ha
  have h3 := Nat.blt_eq.mp hf
  have h9 : ((List.range (gln L a)).all fun i => zft (M a i)) = true := by
    unfold gfit at hft
    simpa using hft
  refine zG_step hd ?_ (kk _ _ _ _)
  simp only [zstep, if_true, zcallV, hr]
  first | rw [if_pos trivial] | skip
  simp only [zclone, h2, Nat.reduceEqDiff, if_false]
  rw [if_pos ⟨trivial, hz, h3, Or.inr ⟨trivial, h9⟩⟩]
  rfl
theorem zG_cast {α : Type} {sc : ZS} {d y pc p : Nat} {ls : List Slot} {M : ZI} {R : ZF} {L : ZY} {E : α → Option Value → ZH → Prop} {o : Option α} {st : List Value} {ix w a c kd : Nat} (hd : zdec y pc = some (.checkcast ix, 3)) (hw : zown y = w) (hc : zacl w ix = some c ∧ kd = (if c = 0 then 0 else 50)) (ha : gak L a kd = true) (hp : pc + 3 = p) (kk : zG sc d y p ls (.ref a :: st) (M, R, L) o E) : zG sc d y pc ls (.ref a :: st) (M, R, L) o E := by
  subst hp; subst hw
  obtain ⟨h1, h2⟩ := gak_sp ha
  refine zG_step hd ?_ kk
  simp only [zstep, if_true, h2, hc.1]
  rw [if_pos hc.2]
theorem zG_cpy {α : Type} {sc : ZS} {d y pc p : Nat} {ls : List Slot} {M : ZI} {R : ZF} {L : ZY} {E : α → Option Value → ZH → Prop} {f : ZI → Option α} {st : List Value} {ix w a b : Nat} {sp dp n : Int32} (hd : zdec y pc = some (.invokestatic ix, 3)) (hw : zown y = w) (hr : zres w ix = some 1000) (hc : gcp M L b sp a dp n = true) (hz : zroom st = true) (hp : pc + 3 = p) (kk : ∀ M, zG sc d y p ls st (M, R, L) (f M) E) : zG sc d y pc ls (.int n :: .int dp :: .ref a :: .int sp :: .ref b :: st) (M, R, L) (zlet (gcy M a b sp dp n) f) E := by
  subst hp; subst hw
  simp only [gcp, Bool.and_eq_true, Nat.ble_eq] at hc
  obtain ⟨⟨⟨c1, c2⟩, c3⟩, c4⟩ := hc
  have c1 := of_decide_eq_true c1
  obtain ⟨a1, a2⟩ := gak_sp c2
  refine zG_step hd ?_ (kk _)
  unfold gcy gsrc
  by_cases h9 : b < 1000000
  · rw [if_pos h9] at c4 ⊢
    simp only [Bool.and_eq_true, Nat.ble_eq] at c4
    obtain ⟨⟨b1, b2⟩, b3⟩ := c4
    obtain ⟨b4, b5⟩ := gak_sp b1
    simp only [zstep, zcallS, hr, if_true, zcpy, if_pos h9, b5, a2]
    rw [if_pos ⟨Or.inr ⟨trivial, trivial, b3⟩, c1.1, c1.2.1, c1.2.2, b2, c3, hz⟩]
    rfl
  · rw [if_neg h9] at c4 ⊢
    rw [Bool.and_eq_true] at c4
    have b1 := of_decide_eq_true c4.1
    have b2 := Nat.le_of_ble_eq_true c4.2
    simp only [zstep, zcallS, hr, if_true, zcpy, if_neg h9, if_pos b1, a2]
    rw [if_pos ⟨trivial, c1.1, c1.2.1, c1.2.2, b2, c3, hz⟩]
    rfl
theorem zG_max {α : Type} {sc : ZS} {d y pc p : Nat} {ls : List Slot} {M : ZI} {R : ZF} {L : ZY} {E : α → Option Value → ZH → Prop} {o : Option α} {st : List Value} {ix w : Nat} {a b : Int32} (hd : zdec y pc = some (.invokestatic ix, 3)) (hw : zown y = w) (hr : zres w ix = some 1001) (hz : zroom st = true) (hp : pc + 3 = p) (k : zG sc d y p ls (.int (zmax a b) :: st) (M, R, L) o E) : zG sc d y pc ls (.int b :: .int a :: st) (M, R, L) o E := by
  subst hp; subst hw; exact zG_step hd (by simp [zstep, zcallS, hr, hz, zmax, zmin]) k
theorem zG_min {α : Type} {sc : ZS} {d y pc p : Nat} {ls : List Slot} {M : ZI} {R : ZF} {L : ZY} {E : α → Option Value → ZH → Prop} {o : Option α} {st : List Value} {ix w : Nat} {a b : Int32} (hd : zdec y pc = some (.invokestatic ix, 3)) (hw : zown y = w) (hr : zres w ix = some 1002) (hz : zroom st = true) (hp : pc + 3 = p) (k : zG sc d y p ls (.int (zmin a b) :: st) (M, R, L) o E) : zG sc d y pc ls (.int b :: .int a :: st) (M, R, L) o E := by
  subst hp; subst hw; exact zG_step hd (by simp [zstep, zcallS, hr, hz, zmax, zmin]) k
theorem zG_obj {α : Type} {sc : ZS} {d y pc p : Nat} {ls : List Slot} {M : ZI} {R : ZF} {L : ZY} {E : α → Option Value → ZH → Prop} {o : Option α} {st : List Value} {ix w a : Nat} (hd : zdec y pc = some (.invokespecial ix, 3)) (hw : zown y = w) (hr : zres w ix = some 1003) (ha : gin a = true) (hz : zroom st = true) (hp : pc + 3 = p) (k : zG sc d y p ls st (M, R, L) o E) : zG sc d y pc ls (.ref a :: st) (M, R, L) o E := by
  subst hp; subst hw
  refine zG_step hd ?_ k
  simp only [zstep, if_true, zcallI, hr]
  rw [if_pos ⟨Nat.blt_eq.mp ha, hz⟩]
theorem zG_reti {sc : ZS} {d y pc : Nat} {ls : List Slot} {h : ZH} {v : Int32} (hd : zdec y pc = some (.ireturn, 1)) (hr : zret y = some .int) : zG sc d y pc ls [.int v] h (some v) (gEi h) := by
  intro a ha r h' he
  cases ha
  obtain ⟨rfl, rfl⟩ := he
  exact ⟨1, by simp [zrun, hd, zstep, hr]⟩
theorem zG_retit {sc : ZS} {d y pc : Nat} {ls : List Slot} {h : ZH} {v : Int32} {t : FieldType} (hd : zdec y pc = some (.ireturn, 1)) (hr : zret y = some t) (hn : narrow t (.int v) = .int v) : zG sc d y pc ls [.int v] h (some v) (gEi h) := by
  intro a ha r h' he
  cases ha
  obtain ⟨rfl, rfl⟩ := he
  refine ⟨1, ?_⟩
  cases t <;> simp_all [zrun, zstep]
theorem zG_retib {sc : ZS} {d y pc : Nat} {ls : List Slot} {h : ZH} {v : Int32} (hd : zdec y pc = some (.ireturn, 1)) (hr : zret y = some .boolean) (hv : zbl v = true) : zG sc d y pc ls [.int v] h (some v) (gEi h) := zG_retit hd hr (by rcases of_decide_eq_true hv with rfl | rfl <;> rfl)
theorem zG_retm {sc : ZS} {d y pc : Nat} {ls : List Slot} {h : ZH} {v : Int32} (hd : zdec y pc = some (.ireturn, 1)) (hr : zret y = some .int) : zG sc d y pc ls [.int v] h (some (v, h)) (gEm) := by
  intro a ha r h' he
  cases ha
  obtain ⟨rfl, rfl⟩ := he
  exact ⟨1, by simp [zrun, hd, zstep, hr]⟩
theorem zG_retmt {sc : ZS} {d y pc : Nat} {ls : List Slot} {h : ZH} {v : Int32} {t : FieldType} (hd : zdec y pc = some (.ireturn, 1)) (hr : zret y = some t) (hn : narrow t (.int v) = .int v) : zG sc d y pc ls [.int v] h (some (v, h)) (gEm) := by
  intro a ha r h' he
  cases ha
  obtain ⟨rfl, rfl⟩ := he
  refine ⟨1, ?_⟩
  cases t <;> simp_all [zrun, zstep]
theorem zG_retmb {sc : ZS} {d y pc : Nat} {ls : List Slot} {h : ZH} {v : Int32} (hd : zdec y pc = some (.ireturn, 1)) (hr : zret y = some .boolean) (hv : zbl v = true) : zG sc d y pc ls [.int v] h (some (v, h)) (gEm) := zG_retmt hd hr (by rcases of_decide_eq_true hv with rfl | rfl <;> rfl)
theorem zG_retv {sc : ZS} {d y pc : Nat} {ls : List Slot} {h : ZH} (hd : zdec y pc = some (.return_, 1)) (hr : zret y = none) : zG sc d y pc ls [] h (some h) gEv := by
  intro a ha r h' he
  cases ha
  obtain ⟨rfl, rfl⟩ := he
  exact ⟨1, by simp [zrun, hd, zstep, hr]⟩
theorem zG_retn {sc : ZS} {d y pc : Nat} {ls : List Slot} {h : ZH} {v : Nat} (hd : zdec y pc = some (.areturn, 1)) (hr : zrt y = true) : zG sc d y pc ls [.ref v] h (some v) (gEn h) := by
  intro a ha r h' he
  cases ha
  obtain ⟨rfl, rfl⟩ := he
  exact ⟨1, by simp [zrun, hd, zstep, hr]⟩
theorem zG_retq {sc : ZS} {d y pc : Nat} {ls : List Slot} {h : ZH} {v : Nat} (hd : zdec y pc = some (.areturn, 1)) (hr : zrt y = true) : zG sc d y pc ls [.ref v] h (some (v, h)) gEq := by
  intro a ha r h' he
  cases ha
  obtain ⟨rfl, rfl⟩ := he
  exact ⟨1, by simp [zrun, hd, zstep, hr]⟩
theorem zG_reto {sc : ZS} {d y pc : Nat} {ls : List Slot} {h : ZH} {v : Nat} (hd : zdec y pc = some (.areturn, 1)) (hr : zrt y = true) : zG sc d y pc ls [.ref v] h (some (some v, h)) gEo := by
  intro a ha r h' he
  cases ha
  obtain ⟨rfl, rfl⟩ := he
  exact ⟨1, by simp [zrun, hd, zstep, hr, va_rf]⟩
theorem zG_retz {sc : ZS} {d y pc : Nat} {ls : List Slot} {h : ZH} (hd : zdec y pc = some (.areturn, 1)) (hr : zrt y = true) : zG sc d y pc ls [.null] h (some (none, h)) gEo := by
  intro a ha r h' he
  cases ha
  obtain ⟨rfl, rfl⟩ := he
  exact ⟨1, by simp [zrun, hd, zstep, hr, va_rf]⟩
theorem zgood_sp {sc : ZS} {R : ZF} {L : ZY} (h : zgood R L = true) : zHc ++ L.drop 148 = L ∧ zLay (sc, R, L.drop 148) := by
  unfold zgood at h
  rw [Bool.and_eq_true] at h
  have h1 := of_decide_eq_true h.1
  refine ⟨by rw [← h1, List.take_append_drop], fun z hz => ?_⟩
  exact of_decide_eq_true (List.all_eq_true.mp h.2 z hz)
theorem zgood_ob {R : ZF} {L : ZY} (h : zgood R L = true) : gob L 0 0 = true := by
  obtain ⟨h1, -⟩ := zgood_sp (sc := (0, fun _ => 0)) h
  unfold gob
  rw [← h1]
  rfl
theorem zG_inh {M : ZI} {R : ZF} {L : ZY} {a k0 k : Nat} {pv : Bool} (ho : gob L a 11 = true) (hv : zvir k0 = some (k, pv)) : zinh (M, R, L) k0 (.ref a) = some k := by
  obtain ⟨h1, n, h2⟩ := gob_sp ho
  unfold zinh
  simp only [h2]
  rw [if_pos h1, if_pos (show 11 + 3 = zSBC + 3 from rfl), hv]
  rfl
theorem zG_recv {M : ZI} {R : ZF} {L : ZY} {a c k : Nat} {st rest : List Value} {as : List Value} (ho : (if c = 12 then gos L a else gob L a c) = true) (hzv : zvir k = none) (hc2 : zown k = c ∧ c < 14 ∧ zdir k = true) (hc : zcats st = true) (hz : zroom rest = true) : (match zinh (M, R, L) k (.ref a) with
    | some k2 => if zcats st = true ∧ zroom rest = true then some (Sum.inr (Sum.inr (k2, as, rest))) else (none : Option ZR)
    | none => if zrecv (M, R, L) k (.ref a) = true ∧ zdir k = true ∧ zcats st = true ∧ zroom rest = true then some (Sum.inr (Sum.inr (k, as, rest))) else none) = some (Sum.inr (Sum.inr (k, as, rest))) := by
  obtain ⟨rfl, hc14, hzd⟩ := hc2
  have hi : zinh (M, R, L) k (.ref a) = none := by
    unfold zinh
    by_cases h9 : a < 1000000
    · simp only [if_pos h9]
      cases L[a]? with
      | none => rfl
      | some q =>
        simp only
        split
        · rw [hzv]; rfl
        · rfl
    · simp only [if_neg h9]
  have hrv : zrecv (M, R, L) k (.ref a) = true := by
    unfold zrecv
    have hcl : zCL.length = 14 := by unfold zCL; simp
    by_cases h9 : a < 1000000
    · have ho2 : gob L a (zown k) = true := by
        split at ho
        · rename_i h12
          unfold gos at ho
          rw [if_pos h9] at ho
          rw [h12]; exact ho
        · exact ho
      obtain ⟨-, n, h2⟩ := gob_sp ho2
      simp only [if_pos h9, h2]
      exact decide_eq_true ⟨trivial, by rw [hcl]; exact hc14⟩
    · simp only [if_neg h9]
      split at ho
      · rename_i h12
        unfold gos at ho
        rw [if_neg h9] at ho
        have h2 := of_decide_eq_true ho
        exact decide_eq_true ⟨h2.1, h2.2, by rw [h12]; rfl⟩
      · have := (gob_sp ho).1
        exact absurd this h9
  rw [hi]
  simp only
  rw [if_pos ⟨hrv, hzd, hc, hz⟩]
theorem zG_cS0i {α : Type} {sc : ZS} {d y pc p ix w k : Nat} {ls l0 : List Slot} {st : List Value} {M : ZI} {R : ZF} {L : ZY} {o1 : Option Int32} {f : Int32 → Option α} {E : α → Option Value → ZH → Prop} {m : Nat} (hd : zdec y pc = some (.invokestatic ix, 3)) (hw : zown y = w) (hr : zres w ix = some k) (hk : k < 152 ∧ zkind k = 0 ∧ znar k = 0 ∧ zml k = m) (hm : Nat.ble 0 m = true) (hE : zG sc d k 0 l0 [] (M, R, L) o1 (gEi (M, R, L))) (hc : zcats (st) = true) (hz : zroom st = true) (hl : zent m [] = l0) (hp : pc + 3 = p) (h : ∀ v, zG sc (d + 1) y p ls (.int v :: st) (M, R, L) (f v) E) : zG sc (d + 1) y pc ls (st) (M, R, L) (o1.bind f) E := by
  obtain rfl := hk.2.2.2
  subst hp; subst hw; subst hl
  intro b hb r h' he
  cases o1 with
  | none => cases hb
  | some v =>
    refine zG_callE (k := k) (as := []) (rest := st) (r1 := (some (.int v))) (h1 := (M, R, L)) hd ?_ (Nat.le_of_ble_eq_true hm) (hE v rfl _ _ ⟨rfl, rfl⟩) ?_
    · simp only [zstep, zcallS, if_true, hr]; rw [if_neg (by omega), if_neg (by omega), if_neg (by omega), if_pos ⟨hk.1, hk.2.1, by rw [hk.2.2.1]; simp, hc, by rw [hk.2.2.1]; exact hz⟩, hk.2.2.1]; rfl
    · exact h v b hb r h' he
theorem zG_cS0m {α : Type} {sc : ZS} {d y pc p ix w k : Nat} {ls l0 : List Slot} {st : List Value} {M : ZI} {R : ZF} {L : ZY} {o1 : Option (Int32 × ZH)} {f : Int32 × ZH → Option α} {E : α → Option Value → ZH → Prop} {m : Nat} (hd : zdec y pc = some (.invokestatic ix, 3)) (hw : zown y = w) (hr : zres w ix = some k) (hk : k < 152 ∧ zkind k = 0 ∧ znar k = 0 ∧ zml k = m) (hm : Nat.ble 0 m = true) (hE : zG sc d k 0 l0 [] (M, R, L) o1 gEm) (hc : zcats (st) = true) (hz : zroom st = true) (hl : zent m [] = l0) (hp : pc + 3 = p) (h : ∀ v M R L, zG sc (d + 1) y p ls (.int v :: st) (M, R, L) (f (v, M, R, L)) E) : zG sc (d + 1) y pc ls (st) (M, R, L) (o1.bind f) E := by
  obtain rfl := hk.2.2.2
  subst hp; subst hw; subst hl
  intro b hb r h' he
  cases o1 with
  | none => cases hb
  | some v =>
    refine zG_callE (k := k) (as := []) (rest := st) (r1 := (some (.int v.1))) (h1 := v.2) hd ?_ (Nat.le_of_ble_eq_true hm) (hE v rfl _ _ ⟨rfl, rfl⟩) ?_
    · simp only [zstep, zcallS, if_true, hr]; rw [if_neg (by omega), if_neg (by omega), if_neg (by omega), if_pos ⟨hk.1, hk.2.1, by rw [hk.2.2.1]; simp, hc, by rw [hk.2.2.1]; exact hz⟩, hk.2.2.1]; rfl
    · exact h v.1 v.2.1 v.2.2.1 v.2.2.2 b hb r h' he
theorem zG_cS0v {α : Type} {sc : ZS} {d y pc p ix w k : Nat} {ls l0 : List Slot} {st : List Value} {M : ZI} {R : ZF} {L : ZY} {o1 : Option ZH} {f : ZH → Option α} {E : α → Option Value → ZH → Prop} {m : Nat} (hd : zdec y pc = some (.invokestatic ix, 3)) (hw : zown y = w) (hr : zres w ix = some k) (hk : k < 152 ∧ zkind k = 0 ∧ znar k = 0 ∧ zml k = m) (hm : Nat.ble 0 m = true) (hE : zG sc d k 0 l0 [] (M, R, L) o1 gEv) (hc : zcats (st) = true) (hz : zroom st = true) (hl : zent m [] = l0) (hp : pc + 3 = p) (h : ∀ M R L, zG sc (d + 1) y p ls st (M, R, L) (f (M, R, L)) E) : zG sc (d + 1) y pc ls (st) (M, R, L) (o1.bind f) E := by
  obtain rfl := hk.2.2.2
  subst hp; subst hw; subst hl
  intro b hb r h' he
  cases o1 with
  | none => cases hb
  | some v =>
    refine zG_callE (k := k) (as := []) (rest := st) (r1 := none) (h1 := v) hd ?_ (Nat.le_of_ble_eq_true hm) (hE v rfl _ _ ⟨rfl, rfl⟩) ?_
    · simp only [zstep, zcallS, if_true, hr]; rw [if_neg (by omega), if_neg (by omega), if_neg (by omega), if_pos ⟨hk.1, hk.2.1, by rw [hk.2.2.1]; simp, hc, by rw [hk.2.2.1]; exact hz⟩, hk.2.2.1]; rfl
    · exact h v.1 v.2.1 v.2.2 b hb r h' he
theorem zG_cS0n {α : Type} {sc : ZS} {d y pc p ix w k : Nat} {ls l0 : List Slot} {st : List Value} {M : ZI} {R : ZF} {L : ZY} {o1 : Option Nat} {f : Nat → Option α} {E : α → Option Value → ZH → Prop} {m : Nat} (hd : zdec y pc = some (.invokestatic ix, 3)) (hw : zown y = w) (hr : zres w ix = some k) (hk : k < 152 ∧ zkind k = 0 ∧ znar k = 0 ∧ zml k = m) (hm : Nat.ble 0 m = true) (hE : zG sc d k 0 l0 [] (M, R, L) o1 (gEn (M, R, L))) (hc : zcats (st) = true) (hz : zroom st = true) (hl : zent m [] = l0) (hp : pc + 3 = p) (h : ∀ v, zG sc (d + 1) y p ls (.ref v :: st) (M, R, L) (f v) E) : zG sc (d + 1) y pc ls (st) (M, R, L) (o1.bind f) E := by
  obtain rfl := hk.2.2.2
  subst hp; subst hw; subst hl
  intro b hb r h' he
  cases o1 with
  | none => cases hb
  | some v =>
    refine zG_callE (k := k) (as := []) (rest := st) (r1 := (some (.ref v))) (h1 := (M, R, L)) hd ?_ (Nat.le_of_ble_eq_true hm) (hE v rfl _ _ ⟨rfl, rfl⟩) ?_
    · simp only [zstep, zcallS, if_true, hr]; rw [if_neg (by omega), if_neg (by omega), if_neg (by omega), if_pos ⟨hk.1, hk.2.1, by rw [hk.2.2.1]; simp, hc, by rw [hk.2.2.1]; exact hz⟩, hk.2.2.1]; rfl
    · exact h v b hb r h' he
theorem zG_cS0q {α : Type} {sc : ZS} {d y pc p ix w k : Nat} {ls l0 : List Slot} {st : List Value} {M : ZI} {R : ZF} {L : ZY} {o1 : Option (Nat × ZH)} {f : Nat × ZH → Option α} {E : α → Option Value → ZH → Prop} {m : Nat} (hd : zdec y pc = some (.invokestatic ix, 3)) (hw : zown y = w) (hr : zres w ix = some k) (hk : k < 152 ∧ zkind k = 0 ∧ znar k = 0 ∧ zml k = m) (hm : Nat.ble 0 m = true) (hE : zG sc d k 0 l0 [] (M, R, L) o1 gEq) (hc : zcats (st) = true) (hz : zroom st = true) (hl : zent m [] = l0) (hp : pc + 3 = p) (h : ∀ v M R L, zG sc (d + 1) y p ls (.ref v :: st) (M, R, L) (f (v, M, R, L)) E) : zG sc (d + 1) y pc ls (st) (M, R, L) (o1.bind f) E := by
  obtain rfl := hk.2.2.2
  subst hp; subst hw; subst hl
  intro b hb r h' he
  cases o1 with
  | none => cases hb
  | some v =>
    refine zG_callE (k := k) (as := []) (rest := st) (r1 := (some (.ref v.1))) (h1 := v.2) hd ?_ (Nat.le_of_ble_eq_true hm) (hE v rfl _ _ ⟨rfl, rfl⟩) ?_
    · simp only [zstep, zcallS, if_true, hr]; rw [if_neg (by omega), if_neg (by omega), if_neg (by omega), if_pos ⟨hk.1, hk.2.1, by rw [hk.2.2.1]; simp, hc, by rw [hk.2.2.1]; exact hz⟩, hk.2.2.1]; rfl
    · exact h v.1 v.2.1 v.2.2.1 v.2.2.2 b hb r h' he
theorem zG_cS0o {α : Type} {sc : ZS} {d y pc p ix w k : Nat} {ls l0 : List Slot} {st : List Value} {M : ZI} {R : ZF} {L : ZY} {o1 : Option (Option Nat × ZH)} {f : Option Nat × ZH → Option α} {E : α → Option Value → ZH → Prop} {m : Nat} (hd : zdec y pc = some (.invokestatic ix, 3)) (hw : zown y = w) (hr : zres w ix = some k) (hk : k < 152 ∧ zkind k = 0 ∧ znar k = 0 ∧ zml k = m) (hm : Nat.ble 0 m = true) (hE : zG sc d k 0 l0 [] (M, R, L) o1 gEo) (hc : zcats (st) = true) (hz : zroom st = true) (hl : zent m [] = l0) (hp : pc + 3 = p) (h : ∀ v M R L, zG sc (d + 1) y p ls (va_rf v :: st) (M, R, L) (f (v, M, R, L)) E) : zG sc (d + 1) y pc ls (st) (M, R, L) (o1.bind f) E := by
  obtain rfl := hk.2.2.2
  subst hp; subst hw; subst hl
  intro b hb r h' he
  cases o1 with
  | none => cases hb
  | some v =>
    refine zG_callE (k := k) (as := []) (rest := st) (r1 := (some (va_rf v.1))) (h1 := v.2) hd ?_ (Nat.le_of_ble_eq_true hm) (hE v rfl _ _ ⟨rfl, rfl⟩) ?_
    · simp only [zstep, zcallS, if_true, hr]; rw [if_neg (by omega), if_neg (by omega), if_neg (by omega), if_pos ⟨hk.1, hk.2.1, by rw [hk.2.2.1]; simp, hc, by rw [hk.2.2.1]; exact hz⟩, hk.2.2.1]; rfl
    · exact h v.1 v.2.1 v.2.2.1 v.2.2.2 b hb r h' he
theorem zG_cS1i {α : Type} {sc : ZS} {d y pc p ix w k : Nat} {ls l0 : List Slot} {st : List Value} {M : ZI} {R : ZF} {L : ZY} {o1 : Option Int32} {f : Int32 → Option α} {E : α → Option Value → ZH → Prop} {m : Nat} {v1 : Value} (hd : zdec y pc = some (.invokestatic ix, 3)) (hw : zown y = w) (hr : zres w ix = some k) (hk : k < 152 ∧ zkind k = 0 ∧ znar k = 1 ∧ zml k = m) (hm : Nat.ble 1 m = true) (hE : zG sc d k 0 l0 [] (M, R, L) o1 (gEi (M, R, L))) (hc : zcats (v1 :: st) = true) (hz : zroom st = true) (hl : zent m [v1] = l0) (hp : pc + 3 = p) (h : ∀ v, zG sc (d + 1) y p ls (.int v :: st) (M, R, L) (f v) E) : zG sc (d + 1) y pc ls (v1 :: st) (M, R, L) (o1.bind f) E := by
  obtain rfl := hk.2.2.2
  subst hp; subst hw; subst hl
  intro b hb r h' he
  cases o1 with
  | none => cases hb
  | some v =>
    refine zG_callE (k := k) (as := [v1]) (rest := st) (r1 := (some (.int v))) (h1 := (M, R, L)) hd ?_ (Nat.le_of_ble_eq_true hm) (hE v rfl _ _ ⟨rfl, rfl⟩) ?_
    · simp only [zstep, zcallS, if_true, hr]; rw [if_neg (by omega), if_neg (by omega), if_neg (by omega), if_pos ⟨hk.1, hk.2.1, by rw [hk.2.2.1]; simp, hc, by rw [hk.2.2.1]; exact hz⟩, hk.2.2.1]; rfl
    · exact h v b hb r h' he
theorem zG_cS1m {α : Type} {sc : ZS} {d y pc p ix w k : Nat} {ls l0 : List Slot} {st : List Value} {M : ZI} {R : ZF} {L : ZY} {o1 : Option (Int32 × ZH)} {f : Int32 × ZH → Option α} {E : α → Option Value → ZH → Prop} {m : Nat} {v1 : Value} (hd : zdec y pc = some (.invokestatic ix, 3)) (hw : zown y = w) (hr : zres w ix = some k) (hk : k < 152 ∧ zkind k = 0 ∧ znar k = 1 ∧ zml k = m) (hm : Nat.ble 1 m = true) (hE : zG sc d k 0 l0 [] (M, R, L) o1 gEm) (hc : zcats (v1 :: st) = true) (hz : zroom st = true) (hl : zent m [v1] = l0) (hp : pc + 3 = p) (h : ∀ v M R L, zG sc (d + 1) y p ls (.int v :: st) (M, R, L) (f (v, M, R, L)) E) : zG sc (d + 1) y pc ls (v1 :: st) (M, R, L) (o1.bind f) E := by
  obtain rfl := hk.2.2.2
  subst hp; subst hw; subst hl
  intro b hb r h' he
  cases o1 with
  | none => cases hb
  | some v =>
    refine zG_callE (k := k) (as := [v1]) (rest := st) (r1 := (some (.int v.1))) (h1 := v.2) hd ?_ (Nat.le_of_ble_eq_true hm) (hE v rfl _ _ ⟨rfl, rfl⟩) ?_
    · simp only [zstep, zcallS, if_true, hr]; rw [if_neg (by omega), if_neg (by omega), if_neg (by omega), if_pos ⟨hk.1, hk.2.1, by rw [hk.2.2.1]; simp, hc, by rw [hk.2.2.1]; exact hz⟩, hk.2.2.1]; rfl
    · exact h v.1 v.2.1 v.2.2.1 v.2.2.2 b hb r h' he
theorem zG_cS1v {α : Type} {sc : ZS} {d y pc p ix w k : Nat} {ls l0 : List Slot} {st : List Value} {M : ZI} {R : ZF} {L : ZY} {o1 : Option ZH} {f : ZH → Option α} {E : α → Option Value → ZH → Prop} {m : Nat} {v1 : Value} (hd : zdec y pc = some (.invokestatic ix, 3)) (hw : zown y = w) (hr : zres w ix = some k) (hk : k < 152 ∧ zkind k = 0 ∧ znar k = 1 ∧ zml k = m) (hm : Nat.ble 1 m = true) (hE : zG sc d k 0 l0 [] (M, R, L) o1 gEv) (hc : zcats (v1 :: st) = true) (hz : zroom st = true) (hl : zent m [v1] = l0) (hp : pc + 3 = p) (h : ∀ M R L, zG sc (d + 1) y p ls st (M, R, L) (f (M, R, L)) E) : zG sc (d + 1) y pc ls (v1 :: st) (M, R, L) (o1.bind f) E := by
  obtain rfl := hk.2.2.2
  subst hp; subst hw; subst hl
  intro b hb r h' he
  cases o1 with
  | none => cases hb
  | some v =>
    refine zG_callE (k := k) (as := [v1]) (rest := st) (r1 := none) (h1 := v) hd ?_ (Nat.le_of_ble_eq_true hm) (hE v rfl _ _ ⟨rfl, rfl⟩) ?_
    · simp only [zstep, zcallS, if_true, hr]; rw [if_neg (by omega), if_neg (by omega), if_neg (by omega), if_pos ⟨hk.1, hk.2.1, by rw [hk.2.2.1]; simp, hc, by rw [hk.2.2.1]; exact hz⟩, hk.2.2.1]; rfl
    · exact h v.1 v.2.1 v.2.2 b hb r h' he
theorem zG_cS1n {α : Type} {sc : ZS} {d y pc p ix w k : Nat} {ls l0 : List Slot} {st : List Value} {M : ZI} {R : ZF} {L : ZY} {o1 : Option Nat} {f : Nat → Option α} {E : α → Option Value → ZH → Prop} {m : Nat} {v1 : Value} (hd : zdec y pc = some (.invokestatic ix, 3)) (hw : zown y = w) (hr : zres w ix = some k) (hk : k < 152 ∧ zkind k = 0 ∧ znar k = 1 ∧ zml k = m) (hm : Nat.ble 1 m = true) (hE : zG sc d k 0 l0 [] (M, R, L) o1 (gEn (M, R, L))) (hc : zcats (v1 :: st) = true) (hz : zroom st = true) (hl : zent m [v1] = l0) (hp : pc + 3 = p) (h : ∀ v, zG sc (d + 1) y p ls (.ref v :: st) (M, R, L) (f v) E) : zG sc (d + 1) y pc ls (v1 :: st) (M, R, L) (o1.bind f) E := by
  obtain rfl := hk.2.2.2
  subst hp; subst hw; subst hl
  intro b hb r h' he
  cases o1 with
  | none => cases hb
  | some v =>
    refine zG_callE (k := k) (as := [v1]) (rest := st) (r1 := (some (.ref v))) (h1 := (M, R, L)) hd ?_ (Nat.le_of_ble_eq_true hm) (hE v rfl _ _ ⟨rfl, rfl⟩) ?_
    · simp only [zstep, zcallS, if_true, hr]; rw [if_neg (by omega), if_neg (by omega), if_neg (by omega), if_pos ⟨hk.1, hk.2.1, by rw [hk.2.2.1]; simp, hc, by rw [hk.2.2.1]; exact hz⟩, hk.2.2.1]; rfl
    · exact h v b hb r h' he
theorem zG_cS1q {α : Type} {sc : ZS} {d y pc p ix w k : Nat} {ls l0 : List Slot} {st : List Value} {M : ZI} {R : ZF} {L : ZY} {o1 : Option (Nat × ZH)} {f : Nat × ZH → Option α} {E : α → Option Value → ZH → Prop} {m : Nat} {v1 : Value} (hd : zdec y pc = some (.invokestatic ix, 3)) (hw : zown y = w) (hr : zres w ix = some k) (hk : k < 152 ∧ zkind k = 0 ∧ znar k = 1 ∧ zml k = m) (hm : Nat.ble 1 m = true) (hE : zG sc d k 0 l0 [] (M, R, L) o1 gEq) (hc : zcats (v1 :: st) = true) (hz : zroom st = true) (hl : zent m [v1] = l0) (hp : pc + 3 = p) (h : ∀ v M R L, zG sc (d + 1) y p ls (.ref v :: st) (M, R, L) (f (v, M, R, L)) E) : zG sc (d + 1) y pc ls (v1 :: st) (M, R, L) (o1.bind f) E := by
  obtain rfl := hk.2.2.2
  subst hp; subst hw; subst hl
  intro b hb r h' he
  cases o1 with
  | none => cases hb
  | some v =>
    refine zG_callE (k := k) (as := [v1]) (rest := st) (r1 := (some (.ref v.1))) (h1 := v.2) hd ?_ (Nat.le_of_ble_eq_true hm) (hE v rfl _ _ ⟨rfl, rfl⟩) ?_
    · simp only [zstep, zcallS, if_true, hr]; rw [if_neg (by omega), if_neg (by omega), if_neg (by omega), if_pos ⟨hk.1, hk.2.1, by rw [hk.2.2.1]; simp, hc, by rw [hk.2.2.1]; exact hz⟩, hk.2.2.1]; rfl
    · exact h v.1 v.2.1 v.2.2.1 v.2.2.2 b hb r h' he
theorem zG_cS1o {α : Type} {sc : ZS} {d y pc p ix w k : Nat} {ls l0 : List Slot} {st : List Value} {M : ZI} {R : ZF} {L : ZY} {o1 : Option (Option Nat × ZH)} {f : Option Nat × ZH → Option α} {E : α → Option Value → ZH → Prop} {m : Nat} {v1 : Value} (hd : zdec y pc = some (.invokestatic ix, 3)) (hw : zown y = w) (hr : zres w ix = some k) (hk : k < 152 ∧ zkind k = 0 ∧ znar k = 1 ∧ zml k = m) (hm : Nat.ble 1 m = true) (hE : zG sc d k 0 l0 [] (M, R, L) o1 gEo) (hc : zcats (v1 :: st) = true) (hz : zroom st = true) (hl : zent m [v1] = l0) (hp : pc + 3 = p) (h : ∀ v M R L, zG sc (d + 1) y p ls (va_rf v :: st) (M, R, L) (f (v, M, R, L)) E) : zG sc (d + 1) y pc ls (v1 :: st) (M, R, L) (o1.bind f) E := by
  obtain rfl := hk.2.2.2
  subst hp; subst hw; subst hl
  intro b hb r h' he
  cases o1 with
  | none => cases hb
  | some v =>
    refine zG_callE (k := k) (as := [v1]) (rest := st) (r1 := (some (va_rf v.1))) (h1 := v.2) hd ?_ (Nat.le_of_ble_eq_true hm) (hE v rfl _ _ ⟨rfl, rfl⟩) ?_
    · simp only [zstep, zcallS, if_true, hr]; rw [if_neg (by omega), if_neg (by omega), if_neg (by omega), if_pos ⟨hk.1, hk.2.1, by rw [hk.2.2.1]; simp, hc, by rw [hk.2.2.1]; exact hz⟩, hk.2.2.1]; rfl
    · exact h v.1 v.2.1 v.2.2.1 v.2.2.2 b hb r h' he
theorem zG_cS2i {α : Type} {sc : ZS} {d y pc p ix w k : Nat} {ls l0 : List Slot} {st : List Value} {M : ZI} {R : ZF} {L : ZY} {o1 : Option Int32} {f : Int32 → Option α} {E : α → Option Value → ZH → Prop} {m : Nat} {v1 v2 : Value} (hd : zdec y pc = some (.invokestatic ix, 3)) (hw : zown y = w) (hr : zres w ix = some k) (hk : k < 152 ∧ zkind k = 0 ∧ znar k = 2 ∧ zml k = m) (hm : Nat.ble 2 m = true) (hE : zG sc d k 0 l0 [] (M, R, L) o1 (gEi (M, R, L))) (hc : zcats (v2 :: v1 :: st) = true) (hz : zroom st = true) (hl : zent m [v1, v2] = l0) (hp : pc + 3 = p) (h : ∀ v, zG sc (d + 1) y p ls (.int v :: st) (M, R, L) (f v) E) : zG sc (d + 1) y pc ls (v2 :: v1 :: st) (M, R, L) (o1.bind f) E := by
  obtain rfl := hk.2.2.2
  subst hp; subst hw; subst hl
  intro b hb r h' he
  cases o1 with
  | none => cases hb
  | some v =>
    refine zG_callE (k := k) (as := [v1, v2]) (rest := st) (r1 := (some (.int v))) (h1 := (M, R, L)) hd ?_ (Nat.le_of_ble_eq_true hm) (hE v rfl _ _ ⟨rfl, rfl⟩) ?_
    · simp only [zstep, zcallS, if_true, hr]; rw [if_neg (by omega), if_neg (by omega), if_neg (by omega), if_pos ⟨hk.1, hk.2.1, by rw [hk.2.2.1]; simp, hc, by rw [hk.2.2.1]; exact hz⟩, hk.2.2.1]; rfl
    · exact h v b hb r h' he
theorem zG_cS2m {α : Type} {sc : ZS} {d y pc p ix w k : Nat} {ls l0 : List Slot} {st : List Value} {M : ZI} {R : ZF} {L : ZY} {o1 : Option (Int32 × ZH)} {f : Int32 × ZH → Option α} {E : α → Option Value → ZH → Prop} {m : Nat} {v1 v2 : Value} (hd : zdec y pc = some (.invokestatic ix, 3)) (hw : zown y = w) (hr : zres w ix = some k) (hk : k < 152 ∧ zkind k = 0 ∧ znar k = 2 ∧ zml k = m) (hm : Nat.ble 2 m = true) (hE : zG sc d k 0 l0 [] (M, R, L) o1 gEm) (hc : zcats (v2 :: v1 :: st) = true) (hz : zroom st = true) (hl : zent m [v1, v2] = l0) (hp : pc + 3 = p) (h : ∀ v M R L, zG sc (d + 1) y p ls (.int v :: st) (M, R, L) (f (v, M, R, L)) E) : zG sc (d + 1) y pc ls (v2 :: v1 :: st) (M, R, L) (o1.bind f) E := by
  obtain rfl := hk.2.2.2
  subst hp; subst hw; subst hl
  intro b hb r h' he
  cases o1 with
  | none => cases hb
  | some v =>
    refine zG_callE (k := k) (as := [v1, v2]) (rest := st) (r1 := (some (.int v.1))) (h1 := v.2) hd ?_ (Nat.le_of_ble_eq_true hm) (hE v rfl _ _ ⟨rfl, rfl⟩) ?_
    · simp only [zstep, zcallS, if_true, hr]; rw [if_neg (by omega), if_neg (by omega), if_neg (by omega), if_pos ⟨hk.1, hk.2.1, by rw [hk.2.2.1]; simp, hc, by rw [hk.2.2.1]; exact hz⟩, hk.2.2.1]; rfl
    · exact h v.1 v.2.1 v.2.2.1 v.2.2.2 b hb r h' he
theorem zG_cS2v {α : Type} {sc : ZS} {d y pc p ix w k : Nat} {ls l0 : List Slot} {st : List Value} {M : ZI} {R : ZF} {L : ZY} {o1 : Option ZH} {f : ZH → Option α} {E : α → Option Value → ZH → Prop} {m : Nat} {v1 v2 : Value} (hd : zdec y pc = some (.invokestatic ix, 3)) (hw : zown y = w) (hr : zres w ix = some k) (hk : k < 152 ∧ zkind k = 0 ∧ znar k = 2 ∧ zml k = m) (hm : Nat.ble 2 m = true) (hE : zG sc d k 0 l0 [] (M, R, L) o1 gEv) (hc : zcats (v2 :: v1 :: st) = true) (hz : zroom st = true) (hl : zent m [v1, v2] = l0) (hp : pc + 3 = p) (h : ∀ M R L, zG sc (d + 1) y p ls st (M, R, L) (f (M, R, L)) E) : zG sc (d + 1) y pc ls (v2 :: v1 :: st) (M, R, L) (o1.bind f) E := by
  obtain rfl := hk.2.2.2
  subst hp; subst hw; subst hl
  intro b hb r h' he
  cases o1 with
  | none => cases hb
  | some v =>
    refine zG_callE (k := k) (as := [v1, v2]) (rest := st) (r1 := none) (h1 := v) hd ?_ (Nat.le_of_ble_eq_true hm) (hE v rfl _ _ ⟨rfl, rfl⟩) ?_
    · simp only [zstep, zcallS, if_true, hr]; rw [if_neg (by omega), if_neg (by omega), if_neg (by omega), if_pos ⟨hk.1, hk.2.1, by rw [hk.2.2.1]; simp, hc, by rw [hk.2.2.1]; exact hz⟩, hk.2.2.1]; rfl
    · exact h v.1 v.2.1 v.2.2 b hb r h' he
theorem zG_cS2n {α : Type} {sc : ZS} {d y pc p ix w k : Nat} {ls l0 : List Slot} {st : List Value} {M : ZI} {R : ZF} {L : ZY} {o1 : Option Nat} {f : Nat → Option α} {E : α → Option Value → ZH → Prop} {m : Nat} {v1 v2 : Value} (hd : zdec y pc = some (.invokestatic ix, 3)) (hw : zown y = w) (hr : zres w ix = some k) (hk : k < 152 ∧ zkind k = 0 ∧ znar k = 2 ∧ zml k = m) (hm : Nat.ble 2 m = true) (hE : zG sc d k 0 l0 [] (M, R, L) o1 (gEn (M, R, L))) (hc : zcats (v2 :: v1 :: st) = true) (hz : zroom st = true) (hl : zent m [v1, v2] = l0) (hp : pc + 3 = p) (h : ∀ v, zG sc (d + 1) y p ls (.ref v :: st) (M, R, L) (f v) E) : zG sc (d + 1) y pc ls (v2 :: v1 :: st) (M, R, L) (o1.bind f) E := by
  obtain rfl := hk.2.2.2
  subst hp; subst hw; subst hl
  intro b hb r h' he
  cases o1 with
  | none => cases hb
  | some v =>
    refine zG_callE (k := k) (as := [v1, v2]) (rest := st) (r1 := (some (.ref v))) (h1 := (M, R, L)) hd ?_ (Nat.le_of_ble_eq_true hm) (hE v rfl _ _ ⟨rfl, rfl⟩) ?_
    · simp only [zstep, zcallS, if_true, hr]; rw [if_neg (by omega), if_neg (by omega), if_neg (by omega), if_pos ⟨hk.1, hk.2.1, by rw [hk.2.2.1]; simp, hc, by rw [hk.2.2.1]; exact hz⟩, hk.2.2.1]; rfl
    · exact h v b hb r h' he
theorem zG_cS2q {α : Type} {sc : ZS} {d y pc p ix w k : Nat} {ls l0 : List Slot} {st : List Value} {M : ZI} {R : ZF} {L : ZY} {o1 : Option (Nat × ZH)} {f : Nat × ZH → Option α} {E : α → Option Value → ZH → Prop} {m : Nat} {v1 v2 : Value} (hd : zdec y pc = some (.invokestatic ix, 3)) (hw : zown y = w) (hr : zres w ix = some k) (hk : k < 152 ∧ zkind k = 0 ∧ znar k = 2 ∧ zml k = m) (hm : Nat.ble 2 m = true) (hE : zG sc d k 0 l0 [] (M, R, L) o1 gEq) (hc : zcats (v2 :: v1 :: st) = true) (hz : zroom st = true) (hl : zent m [v1, v2] = l0) (hp : pc + 3 = p) (h : ∀ v M R L, zG sc (d + 1) y p ls (.ref v :: st) (M, R, L) (f (v, M, R, L)) E) : zG sc (d + 1) y pc ls (v2 :: v1 :: st) (M, R, L) (o1.bind f) E := by
  obtain rfl := hk.2.2.2
  subst hp; subst hw; subst hl
  intro b hb r h' he
  cases o1 with
  | none => cases hb
  | some v =>
    refine zG_callE (k := k) (as := [v1, v2]) (rest := st) (r1 := (some (.ref v.1))) (h1 := v.2) hd ?_ (Nat.le_of_ble_eq_true hm) (hE v rfl _ _ ⟨rfl, rfl⟩) ?_
    · simp only [zstep, zcallS, if_true, hr]; rw [if_neg (by omega), if_neg (by omega), if_neg (by omega), if_pos ⟨hk.1, hk.2.1, by rw [hk.2.2.1]; simp, hc, by rw [hk.2.2.1]; exact hz⟩, hk.2.2.1]; rfl
    · exact h v.1 v.2.1 v.2.2.1 v.2.2.2 b hb r h' he
theorem zG_cS2o {α : Type} {sc : ZS} {d y pc p ix w k : Nat} {ls l0 : List Slot} {st : List Value} {M : ZI} {R : ZF} {L : ZY} {o1 : Option (Option Nat × ZH)} {f : Option Nat × ZH → Option α} {E : α → Option Value → ZH → Prop} {m : Nat} {v1 v2 : Value} (hd : zdec y pc = some (.invokestatic ix, 3)) (hw : zown y = w) (hr : zres w ix = some k) (hk : k < 152 ∧ zkind k = 0 ∧ znar k = 2 ∧ zml k = m) (hm : Nat.ble 2 m = true) (hE : zG sc d k 0 l0 [] (M, R, L) o1 gEo) (hc : zcats (v2 :: v1 :: st) = true) (hz : zroom st = true) (hl : zent m [v1, v2] = l0) (hp : pc + 3 = p) (h : ∀ v M R L, zG sc (d + 1) y p ls (va_rf v :: st) (M, R, L) (f (v, M, R, L)) E) : zG sc (d + 1) y pc ls (v2 :: v1 :: st) (M, R, L) (o1.bind f) E := by
  obtain rfl := hk.2.2.2
  subst hp; subst hw; subst hl
  intro b hb r h' he
  cases o1 with
  | none => cases hb
  | some v =>
    refine zG_callE (k := k) (as := [v1, v2]) (rest := st) (r1 := (some (va_rf v.1))) (h1 := v.2) hd ?_ (Nat.le_of_ble_eq_true hm) (hE v rfl _ _ ⟨rfl, rfl⟩) ?_
    · simp only [zstep, zcallS, if_true, hr]; rw [if_neg (by omega), if_neg (by omega), if_neg (by omega), if_pos ⟨hk.1, hk.2.1, by rw [hk.2.2.1]; simp, hc, by rw [hk.2.2.1]; exact hz⟩, hk.2.2.1]; rfl
    · exact h v.1 v.2.1 v.2.2.1 v.2.2.2 b hb r h' he
theorem zG_cS3i {α : Type} {sc : ZS} {d y pc p ix w k : Nat} {ls l0 : List Slot} {st : List Value} {M : ZI} {R : ZF} {L : ZY} {o1 : Option Int32} {f : Int32 → Option α} {E : α → Option Value → ZH → Prop} {m : Nat} {v1 v2 v3 : Value} (hd : zdec y pc = some (.invokestatic ix, 3)) (hw : zown y = w) (hr : zres w ix = some k) (hk : k < 152 ∧ zkind k = 0 ∧ znar k = 3 ∧ zml k = m) (hm : Nat.ble 3 m = true) (hE : zG sc d k 0 l0 [] (M, R, L) o1 (gEi (M, R, L))) (hc : zcats (v3 :: v2 :: v1 :: st) = true) (hz : zroom st = true) (hl : zent m [v1, v2, v3] = l0) (hp : pc + 3 = p) (h : ∀ v, zG sc (d + 1) y p ls (.int v :: st) (M, R, L) (f v) E) : zG sc (d + 1) y pc ls (v3 :: v2 :: v1 :: st) (M, R, L) (o1.bind f) E := by
  obtain rfl := hk.2.2.2
  subst hp; subst hw; subst hl
  intro b hb r h' he
  cases o1 with
  | none => cases hb
  | some v =>
    refine zG_callE (k := k) (as := [v1, v2, v3]) (rest := st) (r1 := (some (.int v))) (h1 := (M, R, L)) hd ?_ (Nat.le_of_ble_eq_true hm) (hE v rfl _ _ ⟨rfl, rfl⟩) ?_
    · simp only [zstep, zcallS, if_true, hr]; rw [if_neg (by omega), if_neg (by omega), if_neg (by omega), if_pos ⟨hk.1, hk.2.1, by rw [hk.2.2.1]; simp, hc, by rw [hk.2.2.1]; exact hz⟩, hk.2.2.1]; rfl
    · exact h v b hb r h' he
theorem zG_cS3m {α : Type} {sc : ZS} {d y pc p ix w k : Nat} {ls l0 : List Slot} {st : List Value} {M : ZI} {R : ZF} {L : ZY} {o1 : Option (Int32 × ZH)} {f : Int32 × ZH → Option α} {E : α → Option Value → ZH → Prop} {m : Nat} {v1 v2 v3 : Value} (hd : zdec y pc = some (.invokestatic ix, 3)) (hw : zown y = w) (hr : zres w ix = some k) (hk : k < 152 ∧ zkind k = 0 ∧ znar k = 3 ∧ zml k = m) (hm : Nat.ble 3 m = true) (hE : zG sc d k 0 l0 [] (M, R, L) o1 gEm) (hc : zcats (v3 :: v2 :: v1 :: st) = true) (hz : zroom st = true) (hl : zent m [v1, v2, v3] = l0) (hp : pc + 3 = p) (h : ∀ v M R L, zG sc (d + 1) y p ls (.int v :: st) (M, R, L) (f (v, M, R, L)) E) : zG sc (d + 1) y pc ls (v3 :: v2 :: v1 :: st) (M, R, L) (o1.bind f) E := by
  obtain rfl := hk.2.2.2
  subst hp; subst hw; subst hl
  intro b hb r h' he
  cases o1 with
  | none => cases hb
  | some v =>
    refine zG_callE (k := k) (as := [v1, v2, v3]) (rest := st) (r1 := (some (.int v.1))) (h1 := v.2) hd ?_ (Nat.le_of_ble_eq_true hm) (hE v rfl _ _ ⟨rfl, rfl⟩) ?_
    · simp only [zstep, zcallS, if_true, hr]; rw [if_neg (by omega), if_neg (by omega), if_neg (by omega), if_pos ⟨hk.1, hk.2.1, by rw [hk.2.2.1]; simp, hc, by rw [hk.2.2.1]; exact hz⟩, hk.2.2.1]; rfl
    · exact h v.1 v.2.1 v.2.2.1 v.2.2.2 b hb r h' he
theorem zG_cS3v {α : Type} {sc : ZS} {d y pc p ix w k : Nat} {ls l0 : List Slot} {st : List Value} {M : ZI} {R : ZF} {L : ZY} {o1 : Option ZH} {f : ZH → Option α} {E : α → Option Value → ZH → Prop} {m : Nat} {v1 v2 v3 : Value} (hd : zdec y pc = some (.invokestatic ix, 3)) (hw : zown y = w) (hr : zres w ix = some k) (hk : k < 152 ∧ zkind k = 0 ∧ znar k = 3 ∧ zml k = m) (hm : Nat.ble 3 m = true) (hE : zG sc d k 0 l0 [] (M, R, L) o1 gEv) (hc : zcats (v3 :: v2 :: v1 :: st) = true) (hz : zroom st = true) (hl : zent m [v1, v2, v3] = l0) (hp : pc + 3 = p) (h : ∀ M R L, zG sc (d + 1) y p ls st (M, R, L) (f (M, R, L)) E) : zG sc (d + 1) y pc ls (v3 :: v2 :: v1 :: st) (M, R, L) (o1.bind f) E := by
  obtain rfl := hk.2.2.2
  subst hp; subst hw; subst hl
  intro b hb r h' he
  cases o1 with
  | none => cases hb
  | some v =>
    refine zG_callE (k := k) (as := [v1, v2, v3]) (rest := st) (r1 := none) (h1 := v) hd ?_ (Nat.le_of_ble_eq_true hm) (hE v rfl _ _ ⟨rfl, rfl⟩) ?_
    · simp only [zstep, zcallS, if_true, hr]; rw [if_neg (by omega), if_neg (by omega), if_neg (by omega), if_pos ⟨hk.1, hk.2.1, by rw [hk.2.2.1]; simp, hc, by rw [hk.2.2.1]; exact hz⟩, hk.2.2.1]; rfl
    · exact h v.1 v.2.1 v.2.2 b hb r h' he
theorem zG_cS3n {α : Type} {sc : ZS} {d y pc p ix w k : Nat} {ls l0 : List Slot} {st : List Value} {M : ZI} {R : ZF} {L : ZY} {o1 : Option Nat} {f : Nat → Option α} {E : α → Option Value → ZH → Prop} {m : Nat} {v1 v2 v3 : Value} (hd : zdec y pc = some (.invokestatic ix, 3)) (hw : zown y = w) (hr : zres w ix = some k) (hk : k < 152 ∧ zkind k = 0 ∧ znar k = 3 ∧ zml k = m) (hm : Nat.ble 3 m = true) (hE : zG sc d k 0 l0 [] (M, R, L) o1 (gEn (M, R, L))) (hc : zcats (v3 :: v2 :: v1 :: st) = true) (hz : zroom st = true) (hl : zent m [v1, v2, v3] = l0) (hp : pc + 3 = p) (h : ∀ v, zG sc (d + 1) y p ls (.ref v :: st) (M, R, L) (f v) E) : zG sc (d + 1) y pc ls (v3 :: v2 :: v1 :: st) (M, R, L) (o1.bind f) E := by
  obtain rfl := hk.2.2.2
  subst hp; subst hw; subst hl
  intro b hb r h' he
  cases o1 with
  | none => cases hb
  | some v =>
    refine zG_callE (k := k) (as := [v1, v2, v3]) (rest := st) (r1 := (some (.ref v))) (h1 := (M, R, L)) hd ?_ (Nat.le_of_ble_eq_true hm) (hE v rfl _ _ ⟨rfl, rfl⟩) ?_
    · simp only [zstep, zcallS, if_true, hr]; rw [if_neg (by omega), if_neg (by omega), if_neg (by omega), if_pos ⟨hk.1, hk.2.1, by rw [hk.2.2.1]; simp, hc, by rw [hk.2.2.1]; exact hz⟩, hk.2.2.1]; rfl
    · exact h v b hb r h' he
theorem zG_cS3q {α : Type} {sc : ZS} {d y pc p ix w k : Nat} {ls l0 : List Slot} {st : List Value} {M : ZI} {R : ZF} {L : ZY} {o1 : Option (Nat × ZH)} {f : Nat × ZH → Option α} {E : α → Option Value → ZH → Prop} {m : Nat} {v1 v2 v3 : Value} (hd : zdec y pc = some (.invokestatic ix, 3)) (hw : zown y = w) (hr : zres w ix = some k) (hk : k < 152 ∧ zkind k = 0 ∧ znar k = 3 ∧ zml k = m) (hm : Nat.ble 3 m = true) (hE : zG sc d k 0 l0 [] (M, R, L) o1 gEq) (hc : zcats (v3 :: v2 :: v1 :: st) = true) (hz : zroom st = true) (hl : zent m [v1, v2, v3] = l0) (hp : pc + 3 = p) (h : ∀ v M R L, zG sc (d + 1) y p ls (.ref v :: st) (M, R, L) (f (v, M, R, L)) E) : zG sc (d + 1) y pc ls (v3 :: v2 :: v1 :: st) (M, R, L) (o1.bind f) E := by
  obtain rfl := hk.2.2.2
  subst hp; subst hw; subst hl
  intro b hb r h' he
  cases o1 with
  | none => cases hb
  | some v =>
    refine zG_callE (k := k) (as := [v1, v2, v3]) (rest := st) (r1 := (some (.ref v.1))) (h1 := v.2) hd ?_ (Nat.le_of_ble_eq_true hm) (hE v rfl _ _ ⟨rfl, rfl⟩) ?_
    · simp only [zstep, zcallS, if_true, hr]; rw [if_neg (by omega), if_neg (by omega), if_neg (by omega), if_pos ⟨hk.1, hk.2.1, by rw [hk.2.2.1]; simp, hc, by rw [hk.2.2.1]; exact hz⟩, hk.2.2.1]; rfl
    · exact h v.1 v.2.1 v.2.2.1 v.2.2.2 b hb r h' he
theorem zG_cS3o {α : Type} {sc : ZS} {d y pc p ix w k : Nat} {ls l0 : List Slot} {st : List Value} {M : ZI} {R : ZF} {L : ZY} {o1 : Option (Option Nat × ZH)} {f : Option Nat × ZH → Option α} {E : α → Option Value → ZH → Prop} {m : Nat} {v1 v2 v3 : Value} (hd : zdec y pc = some (.invokestatic ix, 3)) (hw : zown y = w) (hr : zres w ix = some k) (hk : k < 152 ∧ zkind k = 0 ∧ znar k = 3 ∧ zml k = m) (hm : Nat.ble 3 m = true) (hE : zG sc d k 0 l0 [] (M, R, L) o1 gEo) (hc : zcats (v3 :: v2 :: v1 :: st) = true) (hz : zroom st = true) (hl : zent m [v1, v2, v3] = l0) (hp : pc + 3 = p) (h : ∀ v M R L, zG sc (d + 1) y p ls (va_rf v :: st) (M, R, L) (f (v, M, R, L)) E) : zG sc (d + 1) y pc ls (v3 :: v2 :: v1 :: st) (M, R, L) (o1.bind f) E := by
  obtain rfl := hk.2.2.2
  subst hp; subst hw; subst hl
  intro b hb r h' he
  cases o1 with
  | none => cases hb
  | some v =>
    refine zG_callE (k := k) (as := [v1, v2, v3]) (rest := st) (r1 := (some (va_rf v.1))) (h1 := v.2) hd ?_ (Nat.le_of_ble_eq_true hm) (hE v rfl _ _ ⟨rfl, rfl⟩) ?_
    · simp only [zstep, zcallS, if_true, hr]; rw [if_neg (by omega), if_neg (by omega), if_neg (by omega), if_pos ⟨hk.1, hk.2.1, by rw [hk.2.2.1]; simp, hc, by rw [hk.2.2.1]; exact hz⟩, hk.2.2.1]; rfl
    · exact h v.1 v.2.1 v.2.2.1 v.2.2.2 b hb r h' he
theorem zG_cS4i {α : Type} {sc : ZS} {d y pc p ix w k : Nat} {ls l0 : List Slot} {st : List Value} {M : ZI} {R : ZF} {L : ZY} {o1 : Option Int32} {f : Int32 → Option α} {E : α → Option Value → ZH → Prop} {m : Nat} {v1 v2 v3 v4 : Value} (hd : zdec y pc = some (.invokestatic ix, 3)) (hw : zown y = w) (hr : zres w ix = some k) (hk : k < 152 ∧ zkind k = 0 ∧ znar k = 4 ∧ zml k = m) (hm : Nat.ble 4 m = true) (hE : zG sc d k 0 l0 [] (M, R, L) o1 (gEi (M, R, L))) (hc : zcats (v4 :: v3 :: v2 :: v1 :: st) = true) (hz : zroom st = true) (hl : zent m [v1, v2, v3, v4] = l0) (hp : pc + 3 = p) (h : ∀ v, zG sc (d + 1) y p ls (.int v :: st) (M, R, L) (f v) E) : zG sc (d + 1) y pc ls (v4 :: v3 :: v2 :: v1 :: st) (M, R, L) (o1.bind f) E := by
  obtain rfl := hk.2.2.2
  subst hp; subst hw; subst hl
  intro b hb r h' he
  cases o1 with
  | none => cases hb
  | some v =>
    refine zG_callE (k := k) (as := [v1, v2, v3, v4]) (rest := st) (r1 := (some (.int v))) (h1 := (M, R, L)) hd ?_ (Nat.le_of_ble_eq_true hm) (hE v rfl _ _ ⟨rfl, rfl⟩) ?_
    · simp only [zstep, zcallS, if_true, hr]; rw [if_neg (by omega), if_neg (by omega), if_neg (by omega), if_pos ⟨hk.1, hk.2.1, by rw [hk.2.2.1]; simp, hc, by rw [hk.2.2.1]; exact hz⟩, hk.2.2.1]; rfl
    · exact h v b hb r h' he
theorem zG_cS4m {α : Type} {sc : ZS} {d y pc p ix w k : Nat} {ls l0 : List Slot} {st : List Value} {M : ZI} {R : ZF} {L : ZY} {o1 : Option (Int32 × ZH)} {f : Int32 × ZH → Option α} {E : α → Option Value → ZH → Prop} {m : Nat} {v1 v2 v3 v4 : Value} (hd : zdec y pc = some (.invokestatic ix, 3)) (hw : zown y = w) (hr : zres w ix = some k) (hk : k < 152 ∧ zkind k = 0 ∧ znar k = 4 ∧ zml k = m) (hm : Nat.ble 4 m = true) (hE : zG sc d k 0 l0 [] (M, R, L) o1 gEm) (hc : zcats (v4 :: v3 :: v2 :: v1 :: st) = true) (hz : zroom st = true) (hl : zent m [v1, v2, v3, v4] = l0) (hp : pc + 3 = p) (h : ∀ v M R L, zG sc (d + 1) y p ls (.int v :: st) (M, R, L) (f (v, M, R, L)) E) : zG sc (d + 1) y pc ls (v4 :: v3 :: v2 :: v1 :: st) (M, R, L) (o1.bind f) E := by
  obtain rfl := hk.2.2.2
  subst hp; subst hw; subst hl
  intro b hb r h' he
  cases o1 with
  | none => cases hb
  | some v =>
    refine zG_callE (k := k) (as := [v1, v2, v3, v4]) (rest := st) (r1 := (some (.int v.1))) (h1 := v.2) hd ?_ (Nat.le_of_ble_eq_true hm) (hE v rfl _ _ ⟨rfl, rfl⟩) ?_
    · simp only [zstep, zcallS, if_true, hr]; rw [if_neg (by omega), if_neg (by omega), if_neg (by omega), if_pos ⟨hk.1, hk.2.1, by rw [hk.2.2.1]; simp, hc, by rw [hk.2.2.1]; exact hz⟩, hk.2.2.1]; rfl
    · exact h v.1 v.2.1 v.2.2.1 v.2.2.2 b hb r h' he
theorem zG_cS4v {α : Type} {sc : ZS} {d y pc p ix w k : Nat} {ls l0 : List Slot} {st : List Value} {M : ZI} {R : ZF} {L : ZY} {o1 : Option ZH} {f : ZH → Option α} {E : α → Option Value → ZH → Prop} {m : Nat} {v1 v2 v3 v4 : Value} (hd : zdec y pc = some (.invokestatic ix, 3)) (hw : zown y = w) (hr : zres w ix = some k) (hk : k < 152 ∧ zkind k = 0 ∧ znar k = 4 ∧ zml k = m) (hm : Nat.ble 4 m = true) (hE : zG sc d k 0 l0 [] (M, R, L) o1 gEv) (hc : zcats (v4 :: v3 :: v2 :: v1 :: st) = true) (hz : zroom st = true) (hl : zent m [v1, v2, v3, v4] = l0) (hp : pc + 3 = p) (h : ∀ M R L, zG sc (d + 1) y p ls st (M, R, L) (f (M, R, L)) E) : zG sc (d + 1) y pc ls (v4 :: v3 :: v2 :: v1 :: st) (M, R, L) (o1.bind f) E := by
  obtain rfl := hk.2.2.2
  subst hp; subst hw; subst hl
  intro b hb r h' he
  cases o1 with
  | none => cases hb
  | some v =>
    refine zG_callE (k := k) (as := [v1, v2, v3, v4]) (rest := st) (r1 := none) (h1 := v) hd ?_ (Nat.le_of_ble_eq_true hm) (hE v rfl _ _ ⟨rfl, rfl⟩) ?_
    · simp only [zstep, zcallS, if_true, hr]; rw [if_neg (by omega), if_neg (by omega), if_neg (by omega), if_pos ⟨hk.1, hk.2.1, by rw [hk.2.2.1]; simp, hc, by rw [hk.2.2.1]; exact hz⟩, hk.2.2.1]; rfl
    · exact h v.1 v.2.1 v.2.2 b hb r h' he
theorem zG_cS4n {α : Type} {sc : ZS} {d y pc p ix w k : Nat} {ls l0 : List Slot} {st : List Value} {M : ZI} {R : ZF} {L : ZY} {o1 : Option Nat} {f : Nat → Option α} {E : α → Option Value → ZH → Prop} {m : Nat} {v1 v2 v3 v4 : Value} (hd : zdec y pc = some (.invokestatic ix, 3)) (hw : zown y = w) (hr : zres w ix = some k) (hk : k < 152 ∧ zkind k = 0 ∧ znar k = 4 ∧ zml k = m) (hm : Nat.ble 4 m = true) (hE : zG sc d k 0 l0 [] (M, R, L) o1 (gEn (M, R, L))) (hc : zcats (v4 :: v3 :: v2 :: v1 :: st) = true) (hz : zroom st = true) (hl : zent m [v1, v2, v3, v4] = l0) (hp : pc + 3 = p) (h : ∀ v, zG sc (d + 1) y p ls (.ref v :: st) (M, R, L) (f v) E) : zG sc (d + 1) y pc ls (v4 :: v3 :: v2 :: v1 :: st) (M, R, L) (o1.bind f) E := by
  obtain rfl := hk.2.2.2
  subst hp; subst hw; subst hl
  intro b hb r h' he
  cases o1 with
  | none => cases hb
  | some v =>
    refine zG_callE (k := k) (as := [v1, v2, v3, v4]) (rest := st) (r1 := (some (.ref v))) (h1 := (M, R, L)) hd ?_ (Nat.le_of_ble_eq_true hm) (hE v rfl _ _ ⟨rfl, rfl⟩) ?_
    · simp only [zstep, zcallS, if_true, hr]; rw [if_neg (by omega), if_neg (by omega), if_neg (by omega), if_pos ⟨hk.1, hk.2.1, by rw [hk.2.2.1]; simp, hc, by rw [hk.2.2.1]; exact hz⟩, hk.2.2.1]; rfl
    · exact h v b hb r h' he
theorem zG_cS4q {α : Type} {sc : ZS} {d y pc p ix w k : Nat} {ls l0 : List Slot} {st : List Value} {M : ZI} {R : ZF} {L : ZY} {o1 : Option (Nat × ZH)} {f : Nat × ZH → Option α} {E : α → Option Value → ZH → Prop} {m : Nat} {v1 v2 v3 v4 : Value} (hd : zdec y pc = some (.invokestatic ix, 3)) (hw : zown y = w) (hr : zres w ix = some k) (hk : k < 152 ∧ zkind k = 0 ∧ znar k = 4 ∧ zml k = m) (hm : Nat.ble 4 m = true) (hE : zG sc d k 0 l0 [] (M, R, L) o1 gEq) (hc : zcats (v4 :: v3 :: v2 :: v1 :: st) = true) (hz : zroom st = true) (hl : zent m [v1, v2, v3, v4] = l0) (hp : pc + 3 = p) (h : ∀ v M R L, zG sc (d + 1) y p ls (.ref v :: st) (M, R, L) (f (v, M, R, L)) E) : zG sc (d + 1) y pc ls (v4 :: v3 :: v2 :: v1 :: st) (M, R, L) (o1.bind f) E := by
  obtain rfl := hk.2.2.2
  subst hp; subst hw; subst hl
  intro b hb r h' he
  cases o1 with
  | none => cases hb
  | some v =>
    refine zG_callE (k := k) (as := [v1, v2, v3, v4]) (rest := st) (r1 := (some (.ref v.1))) (h1 := v.2) hd ?_ (Nat.le_of_ble_eq_true hm) (hE v rfl _ _ ⟨rfl, rfl⟩) ?_
    · simp only [zstep, zcallS, if_true, hr]; rw [if_neg (by omega), if_neg (by omega), if_neg (by omega), if_pos ⟨hk.1, hk.2.1, by rw [hk.2.2.1]; simp, hc, by rw [hk.2.2.1]; exact hz⟩, hk.2.2.1]; rfl
    · exact h v.1 v.2.1 v.2.2.1 v.2.2.2 b hb r h' he
theorem zG_cS4o {α : Type} {sc : ZS} {d y pc p ix w k : Nat} {ls l0 : List Slot} {st : List Value} {M : ZI} {R : ZF} {L : ZY} {o1 : Option (Option Nat × ZH)} {f : Option Nat × ZH → Option α} {E : α → Option Value → ZH → Prop} {m : Nat} {v1 v2 v3 v4 : Value} (hd : zdec y pc = some (.invokestatic ix, 3)) (hw : zown y = w) (hr : zres w ix = some k) (hk : k < 152 ∧ zkind k = 0 ∧ znar k = 4 ∧ zml k = m) (hm : Nat.ble 4 m = true) (hE : zG sc d k 0 l0 [] (M, R, L) o1 gEo) (hc : zcats (v4 :: v3 :: v2 :: v1 :: st) = true) (hz : zroom st = true) (hl : zent m [v1, v2, v3, v4] = l0) (hp : pc + 3 = p) (h : ∀ v M R L, zG sc (d + 1) y p ls (va_rf v :: st) (M, R, L) (f (v, M, R, L)) E) : zG sc (d + 1) y pc ls (v4 :: v3 :: v2 :: v1 :: st) (M, R, L) (o1.bind f) E := by
  obtain rfl := hk.2.2.2
  subst hp; subst hw; subst hl
  intro b hb r h' he
  cases o1 with
  | none => cases hb
  | some v =>
    refine zG_callE (k := k) (as := [v1, v2, v3, v4]) (rest := st) (r1 := (some (va_rf v.1))) (h1 := v.2) hd ?_ (Nat.le_of_ble_eq_true hm) (hE v rfl _ _ ⟨rfl, rfl⟩) ?_
    · simp only [zstep, zcallS, if_true, hr]; rw [if_neg (by omega), if_neg (by omega), if_neg (by omega), if_pos ⟨hk.1, hk.2.1, by rw [hk.2.2.1]; simp, hc, by rw [hk.2.2.1]; exact hz⟩, hk.2.2.1]; rfl
    · exact h v.1 v.2.1 v.2.2.1 v.2.2.2 b hb r h' he
theorem zG_cS5i {α : Type} {sc : ZS} {d y pc p ix w k : Nat} {ls l0 : List Slot} {st : List Value} {M : ZI} {R : ZF} {L : ZY} {o1 : Option Int32} {f : Int32 → Option α} {E : α → Option Value → ZH → Prop} {m : Nat} {v1 v2 v3 v4 v5 : Value} (hd : zdec y pc = some (.invokestatic ix, 3)) (hw : zown y = w) (hr : zres w ix = some k) (hk : k < 152 ∧ zkind k = 0 ∧ znar k = 5 ∧ zml k = m) (hm : Nat.ble 5 m = true) (hE : zG sc d k 0 l0 [] (M, R, L) o1 (gEi (M, R, L))) (hc : zcats (v5 :: v4 :: v3 :: v2 :: v1 :: st) = true) (hz : zroom st = true) (hl : zent m [v1, v2, v3, v4, v5] = l0) (hp : pc + 3 = p) (h : ∀ v, zG sc (d + 1) y p ls (.int v :: st) (M, R, L) (f v) E) : zG sc (d + 1) y pc ls (v5 :: v4 :: v3 :: v2 :: v1 :: st) (M, R, L) (o1.bind f) E := by
  obtain rfl := hk.2.2.2
  subst hp; subst hw; subst hl
  intro b hb r h' he
  cases o1 with
  | none => cases hb
  | some v =>
    refine zG_callE (k := k) (as := [v1, v2, v3, v4, v5]) (rest := st) (r1 := (some (.int v))) (h1 := (M, R, L)) hd ?_ (Nat.le_of_ble_eq_true hm) (hE v rfl _ _ ⟨rfl, rfl⟩) ?_
    · simp only [zstep, zcallS, if_true, hr]; rw [if_neg (by omega), if_neg (by omega), if_neg (by omega), if_pos ⟨hk.1, hk.2.1, by rw [hk.2.2.1]; simp, hc, by rw [hk.2.2.1]; exact hz⟩, hk.2.2.1]; rfl
    · exact h v b hb r h' he
theorem zG_cS5m {α : Type} {sc : ZS} {d y pc p ix w k : Nat} {ls l0 : List Slot} {st : List Value} {M : ZI} {R : ZF} {L : ZY} {o1 : Option (Int32 × ZH)} {f : Int32 × ZH → Option α} {E : α → Option Value → ZH → Prop} {m : Nat} {v1 v2 v3 v4 v5 : Value} (hd : zdec y pc = some (.invokestatic ix, 3)) (hw : zown y = w) (hr : zres w ix = some k) (hk : k < 152 ∧ zkind k = 0 ∧ znar k = 5 ∧ zml k = m) (hm : Nat.ble 5 m = true) (hE : zG sc d k 0 l0 [] (M, R, L) o1 gEm) (hc : zcats (v5 :: v4 :: v3 :: v2 :: v1 :: st) = true) (hz : zroom st = true) (hl : zent m [v1, v2, v3, v4, v5] = l0) (hp : pc + 3 = p) (h : ∀ v M R L, zG sc (d + 1) y p ls (.int v :: st) (M, R, L) (f (v, M, R, L)) E) : zG sc (d + 1) y pc ls (v5 :: v4 :: v3 :: v2 :: v1 :: st) (M, R, L) (o1.bind f) E := by
  obtain rfl := hk.2.2.2
  subst hp; subst hw; subst hl
  intro b hb r h' he
  cases o1 with
  | none => cases hb
  | some v =>
    refine zG_callE (k := k) (as := [v1, v2, v3, v4, v5]) (rest := st) (r1 := (some (.int v.1))) (h1 := v.2) hd ?_ (Nat.le_of_ble_eq_true hm) (hE v rfl _ _ ⟨rfl, rfl⟩) ?_
    · simp only [zstep, zcallS, if_true, hr]; rw [if_neg (by omega), if_neg (by omega), if_neg (by omega), if_pos ⟨hk.1, hk.2.1, by rw [hk.2.2.1]; simp, hc, by rw [hk.2.2.1]; exact hz⟩, hk.2.2.1]; rfl
    · exact h v.1 v.2.1 v.2.2.1 v.2.2.2 b hb r h' he
theorem zG_cS5v {α : Type} {sc : ZS} {d y pc p ix w k : Nat} {ls l0 : List Slot} {st : List Value} {M : ZI} {R : ZF} {L : ZY} {o1 : Option ZH} {f : ZH → Option α} {E : α → Option Value → ZH → Prop} {m : Nat} {v1 v2 v3 v4 v5 : Value} (hd : zdec y pc = some (.invokestatic ix, 3)) (hw : zown y = w) (hr : zres w ix = some k) (hk : k < 152 ∧ zkind k = 0 ∧ znar k = 5 ∧ zml k = m) (hm : Nat.ble 5 m = true) (hE : zG sc d k 0 l0 [] (M, R, L) o1 gEv) (hc : zcats (v5 :: v4 :: v3 :: v2 :: v1 :: st) = true) (hz : zroom st = true) (hl : zent m [v1, v2, v3, v4, v5] = l0) (hp : pc + 3 = p) (h : ∀ M R L, zG sc (d + 1) y p ls st (M, R, L) (f (M, R, L)) E) : zG sc (d + 1) y pc ls (v5 :: v4 :: v3 :: v2 :: v1 :: st) (M, R, L) (o1.bind f) E := by
  obtain rfl := hk.2.2.2
  subst hp; subst hw; subst hl
  intro b hb r h' he
  cases o1 with
  | none => cases hb
  | some v =>
    refine zG_callE (k := k) (as := [v1, v2, v3, v4, v5]) (rest := st) (r1 := none) (h1 := v) hd ?_ (Nat.le_of_ble_eq_true hm) (hE v rfl _ _ ⟨rfl, rfl⟩) ?_
    · simp only [zstep, zcallS, if_true, hr]; rw [if_neg (by omega), if_neg (by omega), if_neg (by omega), if_pos ⟨hk.1, hk.2.1, by rw [hk.2.2.1]; simp, hc, by rw [hk.2.2.1]; exact hz⟩, hk.2.2.1]; rfl
    · exact h v.1 v.2.1 v.2.2 b hb r h' he
theorem zG_cS5n {α : Type} {sc : ZS} {d y pc p ix w k : Nat} {ls l0 : List Slot} {st : List Value} {M : ZI} {R : ZF} {L : ZY} {o1 : Option Nat} {f : Nat → Option α} {E : α → Option Value → ZH → Prop} {m : Nat} {v1 v2 v3 v4 v5 : Value} (hd : zdec y pc = some (.invokestatic ix, 3)) (hw : zown y = w) (hr : zres w ix = some k) (hk : k < 152 ∧ zkind k = 0 ∧ znar k = 5 ∧ zml k = m) (hm : Nat.ble 5 m = true) (hE : zG sc d k 0 l0 [] (M, R, L) o1 (gEn (M, R, L))) (hc : zcats (v5 :: v4 :: v3 :: v2 :: v1 :: st) = true) (hz : zroom st = true) (hl : zent m [v1, v2, v3, v4, v5] = l0) (hp : pc + 3 = p) (h : ∀ v, zG sc (d + 1) y p ls (.ref v :: st) (M, R, L) (f v) E) : zG sc (d + 1) y pc ls (v5 :: v4 :: v3 :: v2 :: v1 :: st) (M, R, L) (o1.bind f) E := by
  obtain rfl := hk.2.2.2
  subst hp; subst hw; subst hl
  intro b hb r h' he
  cases o1 with
  | none => cases hb
  | some v =>
    refine zG_callE (k := k) (as := [v1, v2, v3, v4, v5]) (rest := st) (r1 := (some (.ref v))) (h1 := (M, R, L)) hd ?_ (Nat.le_of_ble_eq_true hm) (hE v rfl _ _ ⟨rfl, rfl⟩) ?_
    · simp only [zstep, zcallS, if_true, hr]; rw [if_neg (by omega), if_neg (by omega), if_neg (by omega), if_pos ⟨hk.1, hk.2.1, by rw [hk.2.2.1]; simp, hc, by rw [hk.2.2.1]; exact hz⟩, hk.2.2.1]; rfl
    · exact h v b hb r h' he
theorem zG_cS5q {α : Type} {sc : ZS} {d y pc p ix w k : Nat} {ls l0 : List Slot} {st : List Value} {M : ZI} {R : ZF} {L : ZY} {o1 : Option (Nat × ZH)} {f : Nat × ZH → Option α} {E : α → Option Value → ZH → Prop} {m : Nat} {v1 v2 v3 v4 v5 : Value} (hd : zdec y pc = some (.invokestatic ix, 3)) (hw : zown y = w) (hr : zres w ix = some k) (hk : k < 152 ∧ zkind k = 0 ∧ znar k = 5 ∧ zml k = m) (hm : Nat.ble 5 m = true) (hE : zG sc d k 0 l0 [] (M, R, L) o1 gEq) (hc : zcats (v5 :: v4 :: v3 :: v2 :: v1 :: st) = true) (hz : zroom st = true) (hl : zent m [v1, v2, v3, v4, v5] = l0) (hp : pc + 3 = p) (h : ∀ v M R L, zG sc (d + 1) y p ls (.ref v :: st) (M, R, L) (f (v, M, R, L)) E) : zG sc (d + 1) y pc ls (v5 :: v4 :: v3 :: v2 :: v1 :: st) (M, R, L) (o1.bind f) E := by
  obtain rfl := hk.2.2.2
  subst hp; subst hw; subst hl
  intro b hb r h' he
  cases o1 with
  | none => cases hb
  | some v =>
    refine zG_callE (k := k) (as := [v1, v2, v3, v4, v5]) (rest := st) (r1 := (some (.ref v.1))) (h1 := v.2) hd ?_ (Nat.le_of_ble_eq_true hm) (hE v rfl _ _ ⟨rfl, rfl⟩) ?_
    · simp only [zstep, zcallS, if_true, hr]; rw [if_neg (by omega), if_neg (by omega), if_neg (by omega), if_pos ⟨hk.1, hk.2.1, by rw [hk.2.2.1]; simp, hc, by rw [hk.2.2.1]; exact hz⟩, hk.2.2.1]; rfl
    · exact h v.1 v.2.1 v.2.2.1 v.2.2.2 b hb r h' he
theorem zG_cS5o {α : Type} {sc : ZS} {d y pc p ix w k : Nat} {ls l0 : List Slot} {st : List Value} {M : ZI} {R : ZF} {L : ZY} {o1 : Option (Option Nat × ZH)} {f : Option Nat × ZH → Option α} {E : α → Option Value → ZH → Prop} {m : Nat} {v1 v2 v3 v4 v5 : Value} (hd : zdec y pc = some (.invokestatic ix, 3)) (hw : zown y = w) (hr : zres w ix = some k) (hk : k < 152 ∧ zkind k = 0 ∧ znar k = 5 ∧ zml k = m) (hm : Nat.ble 5 m = true) (hE : zG sc d k 0 l0 [] (M, R, L) o1 gEo) (hc : zcats (v5 :: v4 :: v3 :: v2 :: v1 :: st) = true) (hz : zroom st = true) (hl : zent m [v1, v2, v3, v4, v5] = l0) (hp : pc + 3 = p) (h : ∀ v M R L, zG sc (d + 1) y p ls (va_rf v :: st) (M, R, L) (f (v, M, R, L)) E) : zG sc (d + 1) y pc ls (v5 :: v4 :: v3 :: v2 :: v1 :: st) (M, R, L) (o1.bind f) E := by
  obtain rfl := hk.2.2.2
  subst hp; subst hw; subst hl
  intro b hb r h' he
  cases o1 with
  | none => cases hb
  | some v =>
    refine zG_callE (k := k) (as := [v1, v2, v3, v4, v5]) (rest := st) (r1 := (some (va_rf v.1))) (h1 := v.2) hd ?_ (Nat.le_of_ble_eq_true hm) (hE v rfl _ _ ⟨rfl, rfl⟩) ?_
    · simp only [zstep, zcallS, if_true, hr]; rw [if_neg (by omega), if_neg (by omega), if_neg (by omega), if_pos ⟨hk.1, hk.2.1, by rw [hk.2.2.1]; simp, hc, by rw [hk.2.2.1]; exact hz⟩, hk.2.2.1]; rfl
    · exact h v.1 v.2.1 v.2.2.1 v.2.2.2 b hb r h' he
theorem zG_cS6i {α : Type} {sc : ZS} {d y pc p ix w k : Nat} {ls l0 : List Slot} {st : List Value} {M : ZI} {R : ZF} {L : ZY} {o1 : Option Int32} {f : Int32 → Option α} {E : α → Option Value → ZH → Prop} {m : Nat} {v1 v2 v3 v4 v5 v6 : Value} (hd : zdec y pc = some (.invokestatic ix, 3)) (hw : zown y = w) (hr : zres w ix = some k) (hk : k < 152 ∧ zkind k = 0 ∧ znar k = 6 ∧ zml k = m) (hm : Nat.ble 6 m = true) (hE : zG sc d k 0 l0 [] (M, R, L) o1 (gEi (M, R, L))) (hc : zcats (v6 :: v5 :: v4 :: v3 :: v2 :: v1 :: st) = true) (hz : zroom st = true) (hl : zent m [v1, v2, v3, v4, v5, v6] = l0) (hp : pc + 3 = p) (h : ∀ v, zG sc (d + 1) y p ls (.int v :: st) (M, R, L) (f v) E) : zG sc (d + 1) y pc ls (v6 :: v5 :: v4 :: v3 :: v2 :: v1 :: st) (M, R, L) (o1.bind f) E := by
  obtain rfl := hk.2.2.2
  subst hp; subst hw; subst hl
  intro b hb r h' he
  cases o1 with
  | none => cases hb
  | some v =>
    refine zG_callE (k := k) (as := [v1, v2, v3, v4, v5, v6]) (rest := st) (r1 := (some (.int v))) (h1 := (M, R, L)) hd ?_ (Nat.le_of_ble_eq_true hm) (hE v rfl _ _ ⟨rfl, rfl⟩) ?_
    · simp only [zstep, zcallS, if_true, hr]; rw [if_neg (by omega), if_neg (by omega), if_neg (by omega), if_pos ⟨hk.1, hk.2.1, by rw [hk.2.2.1]; simp, hc, by rw [hk.2.2.1]; exact hz⟩, hk.2.2.1]; rfl
    · exact h v b hb r h' he
theorem zG_cS6m {α : Type} {sc : ZS} {d y pc p ix w k : Nat} {ls l0 : List Slot} {st : List Value} {M : ZI} {R : ZF} {L : ZY} {o1 : Option (Int32 × ZH)} {f : Int32 × ZH → Option α} {E : α → Option Value → ZH → Prop} {m : Nat} {v1 v2 v3 v4 v5 v6 : Value} (hd : zdec y pc = some (.invokestatic ix, 3)) (hw : zown y = w) (hr : zres w ix = some k) (hk : k < 152 ∧ zkind k = 0 ∧ znar k = 6 ∧ zml k = m) (hm : Nat.ble 6 m = true) (hE : zG sc d k 0 l0 [] (M, R, L) o1 gEm) (hc : zcats (v6 :: v5 :: v4 :: v3 :: v2 :: v1 :: st) = true) (hz : zroom st = true) (hl : zent m [v1, v2, v3, v4, v5, v6] = l0) (hp : pc + 3 = p) (h : ∀ v M R L, zG sc (d + 1) y p ls (.int v :: st) (M, R, L) (f (v, M, R, L)) E) : zG sc (d + 1) y pc ls (v6 :: v5 :: v4 :: v3 :: v2 :: v1 :: st) (M, R, L) (o1.bind f) E := by
  obtain rfl := hk.2.2.2
  subst hp; subst hw; subst hl
  intro b hb r h' he
  cases o1 with
  | none => cases hb
  | some v =>
    refine zG_callE (k := k) (as := [v1, v2, v3, v4, v5, v6]) (rest := st) (r1 := (some (.int v.1))) (h1 := v.2) hd ?_ (Nat.le_of_ble_eq_true hm) (hE v rfl _ _ ⟨rfl, rfl⟩) ?_
    · simp only [zstep, zcallS, if_true, hr]; rw [if_neg (by omega), if_neg (by omega), if_neg (by omega), if_pos ⟨hk.1, hk.2.1, by rw [hk.2.2.1]; simp, hc, by rw [hk.2.2.1]; exact hz⟩, hk.2.2.1]; rfl
    · exact h v.1 v.2.1 v.2.2.1 v.2.2.2 b hb r h' he
theorem zG_cS6v {α : Type} {sc : ZS} {d y pc p ix w k : Nat} {ls l0 : List Slot} {st : List Value} {M : ZI} {R : ZF} {L : ZY} {o1 : Option ZH} {f : ZH → Option α} {E : α → Option Value → ZH → Prop} {m : Nat} {v1 v2 v3 v4 v5 v6 : Value} (hd : zdec y pc = some (.invokestatic ix, 3)) (hw : zown y = w) (hr : zres w ix = some k) (hk : k < 152 ∧ zkind k = 0 ∧ znar k = 6 ∧ zml k = m) (hm : Nat.ble 6 m = true) (hE : zG sc d k 0 l0 [] (M, R, L) o1 gEv) (hc : zcats (v6 :: v5 :: v4 :: v3 :: v2 :: v1 :: st) = true) (hz : zroom st = true) (hl : zent m [v1, v2, v3, v4, v5, v6] = l0) (hp : pc + 3 = p) (h : ∀ M R L, zG sc (d + 1) y p ls st (M, R, L) (f (M, R, L)) E) : zG sc (d + 1) y pc ls (v6 :: v5 :: v4 :: v3 :: v2 :: v1 :: st) (M, R, L) (o1.bind f) E := by
  obtain rfl := hk.2.2.2
  subst hp; subst hw; subst hl
  intro b hb r h' he
  cases o1 with
  | none => cases hb
  | some v =>
    refine zG_callE (k := k) (as := [v1, v2, v3, v4, v5, v6]) (rest := st) (r1 := none) (h1 := v) hd ?_ (Nat.le_of_ble_eq_true hm) (hE v rfl _ _ ⟨rfl, rfl⟩) ?_
    · simp only [zstep, zcallS, if_true, hr]; rw [if_neg (by omega), if_neg (by omega), if_neg (by omega), if_pos ⟨hk.1, hk.2.1, by rw [hk.2.2.1]; simp, hc, by rw [hk.2.2.1]; exact hz⟩, hk.2.2.1]; rfl
    · exact h v.1 v.2.1 v.2.2 b hb r h' he
theorem zG_cS6n {α : Type} {sc : ZS} {d y pc p ix w k : Nat} {ls l0 : List Slot} {st : List Value} {M : ZI} {R : ZF} {L : ZY} {o1 : Option Nat} {f : Nat → Option α} {E : α → Option Value → ZH → Prop} {m : Nat} {v1 v2 v3 v4 v5 v6 : Value} (hd : zdec y pc = some (.invokestatic ix, 3)) (hw : zown y = w) (hr : zres w ix = some k) (hk : k < 152 ∧ zkind k = 0 ∧ znar k = 6 ∧ zml k = m) (hm : Nat.ble 6 m = true) (hE : zG sc d k 0 l0 [] (M, R, L) o1 (gEn (M, R, L))) (hc : zcats (v6 :: v5 :: v4 :: v3 :: v2 :: v1 :: st) = true) (hz : zroom st = true) (hl : zent m [v1, v2, v3, v4, v5, v6] = l0) (hp : pc + 3 = p) (h : ∀ v, zG sc (d + 1) y p ls (.ref v :: st) (M, R, L) (f v) E) : zG sc (d + 1) y pc ls (v6 :: v5 :: v4 :: v3 :: v2 :: v1 :: st) (M, R, L) (o1.bind f) E := by
  obtain rfl := hk.2.2.2
  subst hp; subst hw; subst hl
  intro b hb r h' he
  cases o1 with
  | none => cases hb
  | some v =>
    refine zG_callE (k := k) (as := [v1, v2, v3, v4, v5, v6]) (rest := st) (r1 := (some (.ref v))) (h1 := (M, R, L)) hd ?_ (Nat.le_of_ble_eq_true hm) (hE v rfl _ _ ⟨rfl, rfl⟩) ?_
    · simp only [zstep, zcallS, if_true, hr]; rw [if_neg (by omega), if_neg (by omega), if_neg (by omega), if_pos ⟨hk.1, hk.2.1, by rw [hk.2.2.1]; simp, hc, by rw [hk.2.2.1]; exact hz⟩, hk.2.2.1]; rfl
    · exact h v b hb r h' he
theorem zG_cS6q {α : Type} {sc : ZS} {d y pc p ix w k : Nat} {ls l0 : List Slot} {st : List Value} {M : ZI} {R : ZF} {L : ZY} {o1 : Option (Nat × ZH)} {f : Nat × ZH → Option α} {E : α → Option Value → ZH → Prop} {m : Nat} {v1 v2 v3 v4 v5 v6 : Value} (hd : zdec y pc = some (.invokestatic ix, 3)) (hw : zown y = w) (hr : zres w ix = some k) (hk : k < 152 ∧ zkind k = 0 ∧ znar k = 6 ∧ zml k = m) (hm : Nat.ble 6 m = true) (hE : zG sc d k 0 l0 [] (M, R, L) o1 gEq) (hc : zcats (v6 :: v5 :: v4 :: v3 :: v2 :: v1 :: st) = true) (hz : zroom st = true) (hl : zent m [v1, v2, v3, v4, v5, v6] = l0) (hp : pc + 3 = p) (h : ∀ v M R L, zG sc (d + 1) y p ls (.ref v :: st) (M, R, L) (f (v, M, R, L)) E) : zG sc (d + 1) y pc ls (v6 :: v5 :: v4 :: v3 :: v2 :: v1 :: st) (M, R, L) (o1.bind f) E := by
  obtain rfl := hk.2.2.2
  subst hp; subst hw; subst hl
  intro b hb r h' he
  cases o1 with
  | none => cases hb
  | some v =>
    refine zG_callE (k := k) (as := [v1, v2, v3, v4, v5, v6]) (rest := st) (r1 := (some (.ref v.1))) (h1 := v.2) hd ?_ (Nat.le_of_ble_eq_true hm) (hE v rfl _ _ ⟨rfl, rfl⟩) ?_
    · simp only [zstep, zcallS, if_true, hr]; rw [if_neg (by omega), if_neg (by omega), if_neg (by omega), if_pos ⟨hk.1, hk.2.1, by rw [hk.2.2.1]; simp, hc, by rw [hk.2.2.1]; exact hz⟩, hk.2.2.1]; rfl
    · exact h v.1 v.2.1 v.2.2.1 v.2.2.2 b hb r h' he
theorem zG_cS6o {α : Type} {sc : ZS} {d y pc p ix w k : Nat} {ls l0 : List Slot} {st : List Value} {M : ZI} {R : ZF} {L : ZY} {o1 : Option (Option Nat × ZH)} {f : Option Nat × ZH → Option α} {E : α → Option Value → ZH → Prop} {m : Nat} {v1 v2 v3 v4 v5 v6 : Value} (hd : zdec y pc = some (.invokestatic ix, 3)) (hw : zown y = w) (hr : zres w ix = some k) (hk : k < 152 ∧ zkind k = 0 ∧ znar k = 6 ∧ zml k = m) (hm : Nat.ble 6 m = true) (hE : zG sc d k 0 l0 [] (M, R, L) o1 gEo) (hc : zcats (v6 :: v5 :: v4 :: v3 :: v2 :: v1 :: st) = true) (hz : zroom st = true) (hl : zent m [v1, v2, v3, v4, v5, v6] = l0) (hp : pc + 3 = p) (h : ∀ v M R L, zG sc (d + 1) y p ls (va_rf v :: st) (M, R, L) (f (v, M, R, L)) E) : zG sc (d + 1) y pc ls (v6 :: v5 :: v4 :: v3 :: v2 :: v1 :: st) (M, R, L) (o1.bind f) E := by
  obtain rfl := hk.2.2.2
  subst hp; subst hw; subst hl
  intro b hb r h' he
  cases o1 with
  | none => cases hb
  | some v =>
    refine zG_callE (k := k) (as := [v1, v2, v3, v4, v5, v6]) (rest := st) (r1 := (some (va_rf v.1))) (h1 := v.2) hd ?_ (Nat.le_of_ble_eq_true hm) (hE v rfl _ _ ⟨rfl, rfl⟩) ?_
    · simp only [zstep, zcallS, if_true, hr]; rw [if_neg (by omega), if_neg (by omega), if_neg (by omega), if_pos ⟨hk.1, hk.2.1, by rw [hk.2.2.1]; simp, hc, by rw [hk.2.2.1]; exact hz⟩, hk.2.2.1]; rfl
    · exact h v.1 v.2.1 v.2.2.1 v.2.2.2 b hb r h' he
theorem zG_cV0i {α : Type} {sc : ZS} {d y pc p ix w k : Nat} {ls l0 : List Slot} {st : List Value} {M : ZI} {R : ZF} {L : ZY} {o1 : Option Int32} {f : Int32 → Option α} {E : α → Option Value → ZH → Prop} {m : Nat} {a c : Nat} (hc2 : zown k = c ∧ c < 14 ∧ zdir k = true) (ho : (if c = 12 then gos L a else gob L a c) = true) (hd : zdec y pc = some (.invokevirtual ix, 3)) (hw : zown y = w) (hr : zres w ix = some k) (hk : k < 152 ∧ zkind k = 1 ∧ znar k = 0 ∧ zml k = m) (hzv : zvir k = none) (hm : Nat.ble 1 m = true) (hE : zG sc d k 0 l0 [] (M, R, L) o1 (gEi (M, R, L))) (hc : zcats (.ref a :: st) = true) (hz : zroom st = true) (hl : zent m [.ref a] = l0) (hp : pc + 3 = p) (h : ∀ v, zG sc (d + 1) y p ls (.int v :: st) (M, R, L) (f v) E) : zG sc (d + 1) y pc ls (.ref a :: st) (M, R, L) (o1.bind f) E := by
  obtain rfl := hk.2.2.2
  subst hp; subst hw; subst hl
  intro b hb r h' he
  cases o1 with
  | none => cases hb
  | some v =>
    refine zG_callE (k := k) (as := [.ref a]) (rest := st) (r1 := (some (.int v))) (h1 := (M, R, L)) hd ?_ (Nat.le_of_ble_eq_true hm) (hE v rfl _ _ ⟨rfl, rfl⟩) ?_
    · simp only [zstep, zcallV, if_true, hr]; rw [if_neg (by omega), if_neg (by omega), if_pos ⟨hk.1, hk.2.1⟩, hk.2.2.1]; simp only [List.drop_succ_cons, List.drop_zero]; exact zG_recv (hzv := hzv) ho hc2 hc hz
    · exact h v b hb r h' he
theorem zG_cV0m {α : Type} {sc : ZS} {d y pc p ix w k : Nat} {ls l0 : List Slot} {st : List Value} {M : ZI} {R : ZF} {L : ZY} {o1 : Option (Int32 × ZH)} {f : Int32 × ZH → Option α} {E : α → Option Value → ZH → Prop} {m : Nat} {a c : Nat} (hc2 : zown k = c ∧ c < 14 ∧ zdir k = true) (ho : (if c = 12 then gos L a else gob L a c) = true) (hd : zdec y pc = some (.invokevirtual ix, 3)) (hw : zown y = w) (hr : zres w ix = some k) (hk : k < 152 ∧ zkind k = 1 ∧ znar k = 0 ∧ zml k = m) (hzv : zvir k = none) (hm : Nat.ble 1 m = true) (hE : zG sc d k 0 l0 [] (M, R, L) o1 gEm) (hc : zcats (.ref a :: st) = true) (hz : zroom st = true) (hl : zent m [.ref a] = l0) (hp : pc + 3 = p) (h : ∀ v M R L, zG sc (d + 1) y p ls (.int v :: st) (M, R, L) (f (v, M, R, L)) E) : zG sc (d + 1) y pc ls (.ref a :: st) (M, R, L) (o1.bind f) E := by
  obtain rfl := hk.2.2.2
  subst hp; subst hw; subst hl
  intro b hb r h' he
  cases o1 with
  | none => cases hb
  | some v =>
    refine zG_callE (k := k) (as := [.ref a]) (rest := st) (r1 := (some (.int v.1))) (h1 := v.2) hd ?_ (Nat.le_of_ble_eq_true hm) (hE v rfl _ _ ⟨rfl, rfl⟩) ?_
    · simp only [zstep, zcallV, if_true, hr]; rw [if_neg (by omega), if_neg (by omega), if_pos ⟨hk.1, hk.2.1⟩, hk.2.2.1]; simp only [List.drop_succ_cons, List.drop_zero]; exact zG_recv (hzv := hzv) ho hc2 hc hz
    · exact h v.1 v.2.1 v.2.2.1 v.2.2.2 b hb r h' he
theorem zG_cV0v {α : Type} {sc : ZS} {d y pc p ix w k : Nat} {ls l0 : List Slot} {st : List Value} {M : ZI} {R : ZF} {L : ZY} {o1 : Option ZH} {f : ZH → Option α} {E : α → Option Value → ZH → Prop} {m : Nat} {a c : Nat} (hc2 : zown k = c ∧ c < 14 ∧ zdir k = true) (ho : (if c = 12 then gos L a else gob L a c) = true) (hd : zdec y pc = some (.invokevirtual ix, 3)) (hw : zown y = w) (hr : zres w ix = some k) (hk : k < 152 ∧ zkind k = 1 ∧ znar k = 0 ∧ zml k = m) (hzv : zvir k = none) (hm : Nat.ble 1 m = true) (hE : zG sc d k 0 l0 [] (M, R, L) o1 gEv) (hc : zcats (.ref a :: st) = true) (hz : zroom st = true) (hl : zent m [.ref a] = l0) (hp : pc + 3 = p) (h : ∀ M R L, zG sc (d + 1) y p ls st (M, R, L) (f (M, R, L)) E) : zG sc (d + 1) y pc ls (.ref a :: st) (M, R, L) (o1.bind f) E := by
  obtain rfl := hk.2.2.2
  subst hp; subst hw; subst hl
  intro b hb r h' he
  cases o1 with
  | none => cases hb
  | some v =>
    refine zG_callE (k := k) (as := [.ref a]) (rest := st) (r1 := none) (h1 := v) hd ?_ (Nat.le_of_ble_eq_true hm) (hE v rfl _ _ ⟨rfl, rfl⟩) ?_
    · simp only [zstep, zcallV, if_true, hr]; rw [if_neg (by omega), if_neg (by omega), if_pos ⟨hk.1, hk.2.1⟩, hk.2.2.1]; simp only [List.drop_succ_cons, List.drop_zero]; exact zG_recv (hzv := hzv) ho hc2 hc hz
    · exact h v.1 v.2.1 v.2.2 b hb r h' he
theorem zG_cV0n {α : Type} {sc : ZS} {d y pc p ix w k : Nat} {ls l0 : List Slot} {st : List Value} {M : ZI} {R : ZF} {L : ZY} {o1 : Option Nat} {f : Nat → Option α} {E : α → Option Value → ZH → Prop} {m : Nat} {a c : Nat} (hc2 : zown k = c ∧ c < 14 ∧ zdir k = true) (ho : (if c = 12 then gos L a else gob L a c) = true) (hd : zdec y pc = some (.invokevirtual ix, 3)) (hw : zown y = w) (hr : zres w ix = some k) (hk : k < 152 ∧ zkind k = 1 ∧ znar k = 0 ∧ zml k = m) (hzv : zvir k = none) (hm : Nat.ble 1 m = true) (hE : zG sc d k 0 l0 [] (M, R, L) o1 (gEn (M, R, L))) (hc : zcats (.ref a :: st) = true) (hz : zroom st = true) (hl : zent m [.ref a] = l0) (hp : pc + 3 = p) (h : ∀ v, zG sc (d + 1) y p ls (.ref v :: st) (M, R, L) (f v) E) : zG sc (d + 1) y pc ls (.ref a :: st) (M, R, L) (o1.bind f) E := by
  obtain rfl := hk.2.2.2
  subst hp; subst hw; subst hl
  intro b hb r h' he
  cases o1 with
  | none => cases hb
  | some v =>
    refine zG_callE (k := k) (as := [.ref a]) (rest := st) (r1 := (some (.ref v))) (h1 := (M, R, L)) hd ?_ (Nat.le_of_ble_eq_true hm) (hE v rfl _ _ ⟨rfl, rfl⟩) ?_
    · simp only [zstep, zcallV, if_true, hr]; rw [if_neg (by omega), if_neg (by omega), if_pos ⟨hk.1, hk.2.1⟩, hk.2.2.1]; simp only [List.drop_succ_cons, List.drop_zero]; exact zG_recv (hzv := hzv) ho hc2 hc hz
    · exact h v b hb r h' he
theorem zG_cV0q {α : Type} {sc : ZS} {d y pc p ix w k : Nat} {ls l0 : List Slot} {st : List Value} {M : ZI} {R : ZF} {L : ZY} {o1 : Option (Nat × ZH)} {f : Nat × ZH → Option α} {E : α → Option Value → ZH → Prop} {m : Nat} {a c : Nat} (hc2 : zown k = c ∧ c < 14 ∧ zdir k = true) (ho : (if c = 12 then gos L a else gob L a c) = true) (hd : zdec y pc = some (.invokevirtual ix, 3)) (hw : zown y = w) (hr : zres w ix = some k) (hk : k < 152 ∧ zkind k = 1 ∧ znar k = 0 ∧ zml k = m) (hzv : zvir k = none) (hm : Nat.ble 1 m = true) (hE : zG sc d k 0 l0 [] (M, R, L) o1 gEq) (hc : zcats (.ref a :: st) = true) (hz : zroom st = true) (hl : zent m [.ref a] = l0) (hp : pc + 3 = p) (h : ∀ v M R L, zG sc (d + 1) y p ls (.ref v :: st) (M, R, L) (f (v, M, R, L)) E) : zG sc (d + 1) y pc ls (.ref a :: st) (M, R, L) (o1.bind f) E := by
  obtain rfl := hk.2.2.2
  subst hp; subst hw; subst hl
  intro b hb r h' he
  cases o1 with
  | none => cases hb
  | some v =>
    refine zG_callE (k := k) (as := [.ref a]) (rest := st) (r1 := (some (.ref v.1))) (h1 := v.2) hd ?_ (Nat.le_of_ble_eq_true hm) (hE v rfl _ _ ⟨rfl, rfl⟩) ?_
    · simp only [zstep, zcallV, if_true, hr]; rw [if_neg (by omega), if_neg (by omega), if_pos ⟨hk.1, hk.2.1⟩, hk.2.2.1]; simp only [List.drop_succ_cons, List.drop_zero]; exact zG_recv (hzv := hzv) ho hc2 hc hz
    · exact h v.1 v.2.1 v.2.2.1 v.2.2.2 b hb r h' he
theorem zG_cV1i {α : Type} {sc : ZS} {d y pc p ix w k : Nat} {ls l0 : List Slot} {st : List Value} {M : ZI} {R : ZF} {L : ZY} {o1 : Option Int32} {f : Int32 → Option α} {E : α → Option Value → ZH → Prop} {m : Nat} {v1 : Value} {a c : Nat} (hc2 : zown k = c ∧ c < 14 ∧ zdir k = true) (ho : (if c = 12 then gos L a else gob L a c) = true) (hd : zdec y pc = some (.invokevirtual ix, 3)) (hw : zown y = w) (hr : zres w ix = some k) (hk : k < 152 ∧ zkind k = 1 ∧ znar k = 1 ∧ zml k = m) (hzv : zvir k = none) (hm : Nat.ble 2 m = true) (hE : zG sc d k 0 l0 [] (M, R, L) o1 (gEi (M, R, L))) (hc : zcats (v1 :: .ref a :: st) = true) (hz : zroom st = true) (hl : zent m [.ref a, v1] = l0) (hp : pc + 3 = p) (h : ∀ v, zG sc (d + 1) y p ls (.int v :: st) (M, R, L) (f v) E) : zG sc (d + 1) y pc ls (v1 :: .ref a :: st) (M, R, L) (o1.bind f) E := by
  obtain rfl := hk.2.2.2
  subst hp; subst hw; subst hl
  intro b hb r h' he
  cases o1 with
  | none => cases hb
  | some v =>
    refine zG_callE (k := k) (as := [.ref a, v1]) (rest := st) (r1 := (some (.int v))) (h1 := (M, R, L)) hd ?_ (Nat.le_of_ble_eq_true hm) (hE v rfl _ _ ⟨rfl, rfl⟩) ?_
    · simp only [zstep, zcallV, if_true, hr]; rw [if_neg (by omega), if_neg (by omega), if_pos ⟨hk.1, hk.2.1⟩, hk.2.2.1]; simp only [List.drop_succ_cons, List.drop_zero]; exact zG_recv (hzv := hzv) ho hc2 hc hz
    · exact h v b hb r h' he
theorem zG_cV1m {α : Type} {sc : ZS} {d y pc p ix w k : Nat} {ls l0 : List Slot} {st : List Value} {M : ZI} {R : ZF} {L : ZY} {o1 : Option (Int32 × ZH)} {f : Int32 × ZH → Option α} {E : α → Option Value → ZH → Prop} {m : Nat} {v1 : Value} {a c : Nat} (hc2 : zown k = c ∧ c < 14 ∧ zdir k = true) (ho : (if c = 12 then gos L a else gob L a c) = true) (hd : zdec y pc = some (.invokevirtual ix, 3)) (hw : zown y = w) (hr : zres w ix = some k) (hk : k < 152 ∧ zkind k = 1 ∧ znar k = 1 ∧ zml k = m) (hzv : zvir k = none) (hm : Nat.ble 2 m = true) (hE : zG sc d k 0 l0 [] (M, R, L) o1 gEm) (hc : zcats (v1 :: .ref a :: st) = true) (hz : zroom st = true) (hl : zent m [.ref a, v1] = l0) (hp : pc + 3 = p) (h : ∀ v M R L, zG sc (d + 1) y p ls (.int v :: st) (M, R, L) (f (v, M, R, L)) E) : zG sc (d + 1) y pc ls (v1 :: .ref a :: st) (M, R, L) (o1.bind f) E := by
  obtain rfl := hk.2.2.2
  subst hp; subst hw; subst hl
  intro b hb r h' he
  cases o1 with
  | none => cases hb
  | some v =>
    refine zG_callE (k := k) (as := [.ref a, v1]) (rest := st) (r1 := (some (.int v.1))) (h1 := v.2) hd ?_ (Nat.le_of_ble_eq_true hm) (hE v rfl _ _ ⟨rfl, rfl⟩) ?_
    · simp only [zstep, zcallV, if_true, hr]; rw [if_neg (by omega), if_neg (by omega), if_pos ⟨hk.1, hk.2.1⟩, hk.2.2.1]; simp only [List.drop_succ_cons, List.drop_zero]; exact zG_recv (hzv := hzv) ho hc2 hc hz
    · exact h v.1 v.2.1 v.2.2.1 v.2.2.2 b hb r h' he
theorem zG_cV1v {α : Type} {sc : ZS} {d y pc p ix w k : Nat} {ls l0 : List Slot} {st : List Value} {M : ZI} {R : ZF} {L : ZY} {o1 : Option ZH} {f : ZH → Option α} {E : α → Option Value → ZH → Prop} {m : Nat} {v1 : Value} {a c : Nat} (hc2 : zown k = c ∧ c < 14 ∧ zdir k = true) (ho : (if c = 12 then gos L a else gob L a c) = true) (hd : zdec y pc = some (.invokevirtual ix, 3)) (hw : zown y = w) (hr : zres w ix = some k) (hk : k < 152 ∧ zkind k = 1 ∧ znar k = 1 ∧ zml k = m) (hzv : zvir k = none) (hm : Nat.ble 2 m = true) (hE : zG sc d k 0 l0 [] (M, R, L) o1 gEv) (hc : zcats (v1 :: .ref a :: st) = true) (hz : zroom st = true) (hl : zent m [.ref a, v1] = l0) (hp : pc + 3 = p) (h : ∀ M R L, zG sc (d + 1) y p ls st (M, R, L) (f (M, R, L)) E) : zG sc (d + 1) y pc ls (v1 :: .ref a :: st) (M, R, L) (o1.bind f) E := by
  obtain rfl := hk.2.2.2
  subst hp; subst hw; subst hl
  intro b hb r h' he
  cases o1 with
  | none => cases hb
  | some v =>
    refine zG_callE (k := k) (as := [.ref a, v1]) (rest := st) (r1 := none) (h1 := v) hd ?_ (Nat.le_of_ble_eq_true hm) (hE v rfl _ _ ⟨rfl, rfl⟩) ?_
    · simp only [zstep, zcallV, if_true, hr]; rw [if_neg (by omega), if_neg (by omega), if_pos ⟨hk.1, hk.2.1⟩, hk.2.2.1]; simp only [List.drop_succ_cons, List.drop_zero]; exact zG_recv (hzv := hzv) ho hc2 hc hz
    · exact h v.1 v.2.1 v.2.2 b hb r h' he
theorem zG_cV1n {α : Type} {sc : ZS} {d y pc p ix w k : Nat} {ls l0 : List Slot} {st : List Value} {M : ZI} {R : ZF} {L : ZY} {o1 : Option Nat} {f : Nat → Option α} {E : α → Option Value → ZH → Prop} {m : Nat} {v1 : Value} {a c : Nat} (hc2 : zown k = c ∧ c < 14 ∧ zdir k = true) (ho : (if c = 12 then gos L a else gob L a c) = true) (hd : zdec y pc = some (.invokevirtual ix, 3)) (hw : zown y = w) (hr : zres w ix = some k) (hk : k < 152 ∧ zkind k = 1 ∧ znar k = 1 ∧ zml k = m) (hzv : zvir k = none) (hm : Nat.ble 2 m = true) (hE : zG sc d k 0 l0 [] (M, R, L) o1 (gEn (M, R, L))) (hc : zcats (v1 :: .ref a :: st) = true) (hz : zroom st = true) (hl : zent m [.ref a, v1] = l0) (hp : pc + 3 = p) (h : ∀ v, zG sc (d + 1) y p ls (.ref v :: st) (M, R, L) (f v) E) : zG sc (d + 1) y pc ls (v1 :: .ref a :: st) (M, R, L) (o1.bind f) E := by
  obtain rfl := hk.2.2.2
  subst hp; subst hw; subst hl
  intro b hb r h' he
  cases o1 with
  | none => cases hb
  | some v =>
    refine zG_callE (k := k) (as := [.ref a, v1]) (rest := st) (r1 := (some (.ref v))) (h1 := (M, R, L)) hd ?_ (Nat.le_of_ble_eq_true hm) (hE v rfl _ _ ⟨rfl, rfl⟩) ?_
    · simp only [zstep, zcallV, if_true, hr]; rw [if_neg (by omega), if_neg (by omega), if_pos ⟨hk.1, hk.2.1⟩, hk.2.2.1]; simp only [List.drop_succ_cons, List.drop_zero]; exact zG_recv (hzv := hzv) ho hc2 hc hz
    · exact h v b hb r h' he
theorem zG_cV1q {α : Type} {sc : ZS} {d y pc p ix w k : Nat} {ls l0 : List Slot} {st : List Value} {M : ZI} {R : ZF} {L : ZY} {o1 : Option (Nat × ZH)} {f : Nat × ZH → Option α} {E : α → Option Value → ZH → Prop} {m : Nat} {v1 : Value} {a c : Nat} (hc2 : zown k = c ∧ c < 14 ∧ zdir k = true) (ho : (if c = 12 then gos L a else gob L a c) = true) (hd : zdec y pc = some (.invokevirtual ix, 3)) (hw : zown y = w) (hr : zres w ix = some k) (hk : k < 152 ∧ zkind k = 1 ∧ znar k = 1 ∧ zml k = m) (hzv : zvir k = none) (hm : Nat.ble 2 m = true) (hE : zG sc d k 0 l0 [] (M, R, L) o1 gEq) (hc : zcats (v1 :: .ref a :: st) = true) (hz : zroom st = true) (hl : zent m [.ref a, v1] = l0) (hp : pc + 3 = p) (h : ∀ v M R L, zG sc (d + 1) y p ls (.ref v :: st) (M, R, L) (f (v, M, R, L)) E) : zG sc (d + 1) y pc ls (v1 :: .ref a :: st) (M, R, L) (o1.bind f) E := by
  obtain rfl := hk.2.2.2
  subst hp; subst hw; subst hl
  intro b hb r h' he
  cases o1 with
  | none => cases hb
  | some v =>
    refine zG_callE (k := k) (as := [.ref a, v1]) (rest := st) (r1 := (some (.ref v.1))) (h1 := v.2) hd ?_ (Nat.le_of_ble_eq_true hm) (hE v rfl _ _ ⟨rfl, rfl⟩) ?_
    · simp only [zstep, zcallV, if_true, hr]; rw [if_neg (by omega), if_neg (by omega), if_pos ⟨hk.1, hk.2.1⟩, hk.2.2.1]; simp only [List.drop_succ_cons, List.drop_zero]; exact zG_recv (hzv := hzv) ho hc2 hc hz
    · exact h v.1 v.2.1 v.2.2.1 v.2.2.2 b hb r h' he
theorem zG_cV2i {α : Type} {sc : ZS} {d y pc p ix w k : Nat} {ls l0 : List Slot} {st : List Value} {M : ZI} {R : ZF} {L : ZY} {o1 : Option Int32} {f : Int32 → Option α} {E : α → Option Value → ZH → Prop} {m : Nat} {v1 v2 : Value} {a c : Nat} (hc2 : zown k = c ∧ c < 14 ∧ zdir k = true) (ho : (if c = 12 then gos L a else gob L a c) = true) (hd : zdec y pc = some (.invokevirtual ix, 3)) (hw : zown y = w) (hr : zres w ix = some k) (hk : k < 152 ∧ zkind k = 1 ∧ znar k = 2 ∧ zml k = m) (hzv : zvir k = none) (hm : Nat.ble 3 m = true) (hE : zG sc d k 0 l0 [] (M, R, L) o1 (gEi (M, R, L))) (hc : zcats (v2 :: v1 :: .ref a :: st) = true) (hz : zroom st = true) (hl : zent m [.ref a, v1, v2] = l0) (hp : pc + 3 = p) (h : ∀ v, zG sc (d + 1) y p ls (.int v :: st) (M, R, L) (f v) E) : zG sc (d + 1) y pc ls (v2 :: v1 :: .ref a :: st) (M, R, L) (o1.bind f) E := by
  obtain rfl := hk.2.2.2
  subst hp; subst hw; subst hl
  intro b hb r h' he
  cases o1 with
  | none => cases hb
  | some v =>
    refine zG_callE (k := k) (as := [.ref a, v1, v2]) (rest := st) (r1 := (some (.int v))) (h1 := (M, R, L)) hd ?_ (Nat.le_of_ble_eq_true hm) (hE v rfl _ _ ⟨rfl, rfl⟩) ?_
    · simp only [zstep, zcallV, if_true, hr]; rw [if_neg (by omega), if_neg (by omega), if_pos ⟨hk.1, hk.2.1⟩, hk.2.2.1]; simp only [List.drop_succ_cons, List.drop_zero]; exact zG_recv (hzv := hzv) ho hc2 hc hz
    · exact h v b hb r h' he
theorem zG_cV2m {α : Type} {sc : ZS} {d y pc p ix w k : Nat} {ls l0 : List Slot} {st : List Value} {M : ZI} {R : ZF} {L : ZY} {o1 : Option (Int32 × ZH)} {f : Int32 × ZH → Option α} {E : α → Option Value → ZH → Prop} {m : Nat} {v1 v2 : Value} {a c : Nat} (hc2 : zown k = c ∧ c < 14 ∧ zdir k = true) (ho : (if c = 12 then gos L a else gob L a c) = true) (hd : zdec y pc = some (.invokevirtual ix, 3)) (hw : zown y = w) (hr : zres w ix = some k) (hk : k < 152 ∧ zkind k = 1 ∧ znar k = 2 ∧ zml k = m) (hzv : zvir k = none) (hm : Nat.ble 3 m = true) (hE : zG sc d k 0 l0 [] (M, R, L) o1 gEm) (hc : zcats (v2 :: v1 :: .ref a :: st) = true) (hz : zroom st = true) (hl : zent m [.ref a, v1, v2] = l0) (hp : pc + 3 = p) (h : ∀ v M R L, zG sc (d + 1) y p ls (.int v :: st) (M, R, L) (f (v, M, R, L)) E) : zG sc (d + 1) y pc ls (v2 :: v1 :: .ref a :: st) (M, R, L) (o1.bind f) E := by
  obtain rfl := hk.2.2.2
  subst hp; subst hw; subst hl
  intro b hb r h' he
  cases o1 with
  | none => cases hb
  | some v =>
    refine zG_callE (k := k) (as := [.ref a, v1, v2]) (rest := st) (r1 := (some (.int v.1))) (h1 := v.2) hd ?_ (Nat.le_of_ble_eq_true hm) (hE v rfl _ _ ⟨rfl, rfl⟩) ?_
    · simp only [zstep, zcallV, if_true, hr]; rw [if_neg (by omega), if_neg (by omega), if_pos ⟨hk.1, hk.2.1⟩, hk.2.2.1]; simp only [List.drop_succ_cons, List.drop_zero]; exact zG_recv (hzv := hzv) ho hc2 hc hz
    · exact h v.1 v.2.1 v.2.2.1 v.2.2.2 b hb r h' he
theorem zG_cV2v {α : Type} {sc : ZS} {d y pc p ix w k : Nat} {ls l0 : List Slot} {st : List Value} {M : ZI} {R : ZF} {L : ZY} {o1 : Option ZH} {f : ZH → Option α} {E : α → Option Value → ZH → Prop} {m : Nat} {v1 v2 : Value} {a c : Nat} (hc2 : zown k = c ∧ c < 14 ∧ zdir k = true) (ho : (if c = 12 then gos L a else gob L a c) = true) (hd : zdec y pc = some (.invokevirtual ix, 3)) (hw : zown y = w) (hr : zres w ix = some k) (hk : k < 152 ∧ zkind k = 1 ∧ znar k = 2 ∧ zml k = m) (hzv : zvir k = none) (hm : Nat.ble 3 m = true) (hE : zG sc d k 0 l0 [] (M, R, L) o1 gEv) (hc : zcats (v2 :: v1 :: .ref a :: st) = true) (hz : zroom st = true) (hl : zent m [.ref a, v1, v2] = l0) (hp : pc + 3 = p) (h : ∀ M R L, zG sc (d + 1) y p ls st (M, R, L) (f (M, R, L)) E) : zG sc (d + 1) y pc ls (v2 :: v1 :: .ref a :: st) (M, R, L) (o1.bind f) E := by
  obtain rfl := hk.2.2.2
  subst hp; subst hw; subst hl
  intro b hb r h' he
  cases o1 with
  | none => cases hb
  | some v =>
    refine zG_callE (k := k) (as := [.ref a, v1, v2]) (rest := st) (r1 := none) (h1 := v) hd ?_ (Nat.le_of_ble_eq_true hm) (hE v rfl _ _ ⟨rfl, rfl⟩) ?_
    · simp only [zstep, zcallV, if_true, hr]; rw [if_neg (by omega), if_neg (by omega), if_pos ⟨hk.1, hk.2.1⟩, hk.2.2.1]; simp only [List.drop_succ_cons, List.drop_zero]; exact zG_recv (hzv := hzv) ho hc2 hc hz
    · exact h v.1 v.2.1 v.2.2 b hb r h' he
theorem zG_cV2n {α : Type} {sc : ZS} {d y pc p ix w k : Nat} {ls l0 : List Slot} {st : List Value} {M : ZI} {R : ZF} {L : ZY} {o1 : Option Nat} {f : Nat → Option α} {E : α → Option Value → ZH → Prop} {m : Nat} {v1 v2 : Value} {a c : Nat} (hc2 : zown k = c ∧ c < 14 ∧ zdir k = true) (ho : (if c = 12 then gos L a else gob L a c) = true) (hd : zdec y pc = some (.invokevirtual ix, 3)) (hw : zown y = w) (hr : zres w ix = some k) (hk : k < 152 ∧ zkind k = 1 ∧ znar k = 2 ∧ zml k = m) (hzv : zvir k = none) (hm : Nat.ble 3 m = true) (hE : zG sc d k 0 l0 [] (M, R, L) o1 (gEn (M, R, L))) (hc : zcats (v2 :: v1 :: .ref a :: st) = true) (hz : zroom st = true) (hl : zent m [.ref a, v1, v2] = l0) (hp : pc + 3 = p) (h : ∀ v, zG sc (d + 1) y p ls (.ref v :: st) (M, R, L) (f v) E) : zG sc (d + 1) y pc ls (v2 :: v1 :: .ref a :: st) (M, R, L) (o1.bind f) E := by
  obtain rfl := hk.2.2.2
  subst hp; subst hw; subst hl
  intro b hb r h' he
  cases o1 with
  | none => cases hb
  | some v =>
    refine zG_callE (k := k) (as := [.ref a, v1, v2]) (rest := st) (r1 := (some (.ref v))) (h1 := (M, R, L)) hd ?_ (Nat.le_of_ble_eq_true hm) (hE v rfl _ _ ⟨rfl, rfl⟩) ?_
    · simp only [zstep, zcallV, if_true, hr]; rw [if_neg (by omega), if_neg (by omega), if_pos ⟨hk.1, hk.2.1⟩, hk.2.2.1]; simp only [List.drop_succ_cons, List.drop_zero]; exact zG_recv (hzv := hzv) ho hc2 hc hz
    · exact h v b hb r h' he
theorem zG_cV2q {α : Type} {sc : ZS} {d y pc p ix w k : Nat} {ls l0 : List Slot} {st : List Value} {M : ZI} {R : ZF} {L : ZY} {o1 : Option (Nat × ZH)} {f : Nat × ZH → Option α} {E : α → Option Value → ZH → Prop} {m : Nat} {v1 v2 : Value} {a c : Nat} (hc2 : zown k = c ∧ c < 14 ∧ zdir k = true) (ho : (if c = 12 then gos L a else gob L a c) = true) (hd : zdec y pc = some (.invokevirtual ix, 3)) (hw : zown y = w) (hr : zres w ix = some k) (hk : k < 152 ∧ zkind k = 1 ∧ znar k = 2 ∧ zml k = m) (hzv : zvir k = none) (hm : Nat.ble 3 m = true) (hE : zG sc d k 0 l0 [] (M, R, L) o1 gEq) (hc : zcats (v2 :: v1 :: .ref a :: st) = true) (hz : zroom st = true) (hl : zent m [.ref a, v1, v2] = l0) (hp : pc + 3 = p) (h : ∀ v M R L, zG sc (d + 1) y p ls (.ref v :: st) (M, R, L) (f (v, M, R, L)) E) : zG sc (d + 1) y pc ls (v2 :: v1 :: .ref a :: st) (M, R, L) (o1.bind f) E := by
  obtain rfl := hk.2.2.2
  subst hp; subst hw; subst hl
  intro b hb r h' he
  cases o1 with
  | none => cases hb
  | some v =>
    refine zG_callE (k := k) (as := [.ref a, v1, v2]) (rest := st) (r1 := (some (.ref v.1))) (h1 := v.2) hd ?_ (Nat.le_of_ble_eq_true hm) (hE v rfl _ _ ⟨rfl, rfl⟩) ?_
    · simp only [zstep, zcallV, if_true, hr]; rw [if_neg (by omega), if_neg (by omega), if_pos ⟨hk.1, hk.2.1⟩, hk.2.2.1]; simp only [List.drop_succ_cons, List.drop_zero]; exact zG_recv (hzv := hzv) ho hc2 hc hz
    · exact h v.1 v.2.1 v.2.2.1 v.2.2.2 b hb r h' he
theorem zG_cV3i {α : Type} {sc : ZS} {d y pc p ix w k : Nat} {ls l0 : List Slot} {st : List Value} {M : ZI} {R : ZF} {L : ZY} {o1 : Option Int32} {f : Int32 → Option α} {E : α → Option Value → ZH → Prop} {m : Nat} {v1 v2 v3 : Value} {a c : Nat} (hc2 : zown k = c ∧ c < 14 ∧ zdir k = true) (ho : (if c = 12 then gos L a else gob L a c) = true) (hd : zdec y pc = some (.invokevirtual ix, 3)) (hw : zown y = w) (hr : zres w ix = some k) (hk : k < 152 ∧ zkind k = 1 ∧ znar k = 3 ∧ zml k = m) (hzv : zvir k = none) (hm : Nat.ble 4 m = true) (hE : zG sc d k 0 l0 [] (M, R, L) o1 (gEi (M, R, L))) (hc : zcats (v3 :: v2 :: v1 :: .ref a :: st) = true) (hz : zroom st = true) (hl : zent m [.ref a, v1, v2, v3] = l0) (hp : pc + 3 = p) (h : ∀ v, zG sc (d + 1) y p ls (.int v :: st) (M, R, L) (f v) E) : zG sc (d + 1) y pc ls (v3 :: v2 :: v1 :: .ref a :: st) (M, R, L) (o1.bind f) E := by
  obtain rfl := hk.2.2.2
  subst hp; subst hw; subst hl
  intro b hb r h' he
  cases o1 with
  | none => cases hb
  | some v =>
    refine zG_callE (k := k) (as := [.ref a, v1, v2, v3]) (rest := st) (r1 := (some (.int v))) (h1 := (M, R, L)) hd ?_ (Nat.le_of_ble_eq_true hm) (hE v rfl _ _ ⟨rfl, rfl⟩) ?_
    · simp only [zstep, zcallV, if_true, hr]; rw [if_neg (by omega), if_neg (by omega), if_pos ⟨hk.1, hk.2.1⟩, hk.2.2.1]; simp only [List.drop_succ_cons, List.drop_zero]; exact zG_recv (hzv := hzv) ho hc2 hc hz
    · exact h v b hb r h' he
theorem zG_cV3m {α : Type} {sc : ZS} {d y pc p ix w k : Nat} {ls l0 : List Slot} {st : List Value} {M : ZI} {R : ZF} {L : ZY} {o1 : Option (Int32 × ZH)} {f : Int32 × ZH → Option α} {E : α → Option Value → ZH → Prop} {m : Nat} {v1 v2 v3 : Value} {a c : Nat} (hc2 : zown k = c ∧ c < 14 ∧ zdir k = true) (ho : (if c = 12 then gos L a else gob L a c) = true) (hd : zdec y pc = some (.invokevirtual ix, 3)) (hw : zown y = w) (hr : zres w ix = some k) (hk : k < 152 ∧ zkind k = 1 ∧ znar k = 3 ∧ zml k = m) (hzv : zvir k = none) (hm : Nat.ble 4 m = true) (hE : zG sc d k 0 l0 [] (M, R, L) o1 gEm) (hc : zcats (v3 :: v2 :: v1 :: .ref a :: st) = true) (hz : zroom st = true) (hl : zent m [.ref a, v1, v2, v3] = l0) (hp : pc + 3 = p) (h : ∀ v M R L, zG sc (d + 1) y p ls (.int v :: st) (M, R, L) (f (v, M, R, L)) E) : zG sc (d + 1) y pc ls (v3 :: v2 :: v1 :: .ref a :: st) (M, R, L) (o1.bind f) E := by
  obtain rfl := hk.2.2.2
  subst hp; subst hw; subst hl
  intro b hb r h' he
  cases o1 with
  | none => cases hb
  | some v =>
    refine zG_callE (k := k) (as := [.ref a, v1, v2, v3]) (rest := st) (r1 := (some (.int v.1))) (h1 := v.2) hd ?_ (Nat.le_of_ble_eq_true hm) (hE v rfl _ _ ⟨rfl, rfl⟩) ?_
    · simp only [zstep, zcallV, if_true, hr]; rw [if_neg (by omega), if_neg (by omega), if_pos ⟨hk.1, hk.2.1⟩, hk.2.2.1]; simp only [List.drop_succ_cons, List.drop_zero]; exact zG_recv (hzv := hzv) ho hc2 hc hz
    · exact h v.1 v.2.1 v.2.2.1 v.2.2.2 b hb r h' he
theorem zG_cV3v {α : Type} {sc : ZS} {d y pc p ix w k : Nat} {ls l0 : List Slot} {st : List Value} {M : ZI} {R : ZF} {L : ZY} {o1 : Option ZH} {f : ZH → Option α} {E : α → Option Value → ZH → Prop} {m : Nat} {v1 v2 v3 : Value} {a c : Nat} (hc2 : zown k = c ∧ c < 14 ∧ zdir k = true) (ho : (if c = 12 then gos L a else gob L a c) = true) (hd : zdec y pc = some (.invokevirtual ix, 3)) (hw : zown y = w) (hr : zres w ix = some k) (hk : k < 152 ∧ zkind k = 1 ∧ znar k = 3 ∧ zml k = m) (hzv : zvir k = none) (hm : Nat.ble 4 m = true) (hE : zG sc d k 0 l0 [] (M, R, L) o1 gEv) (hc : zcats (v3 :: v2 :: v1 :: .ref a :: st) = true) (hz : zroom st = true) (hl : zent m [.ref a, v1, v2, v3] = l0) (hp : pc + 3 = p) (h : ∀ M R L, zG sc (d + 1) y p ls st (M, R, L) (f (M, R, L)) E) : zG sc (d + 1) y pc ls (v3 :: v2 :: v1 :: .ref a :: st) (M, R, L) (o1.bind f) E := by
  obtain rfl := hk.2.2.2
  subst hp; subst hw; subst hl
  intro b hb r h' he
  cases o1 with
  | none => cases hb
  | some v =>
    refine zG_callE (k := k) (as := [.ref a, v1, v2, v3]) (rest := st) (r1 := none) (h1 := v) hd ?_ (Nat.le_of_ble_eq_true hm) (hE v rfl _ _ ⟨rfl, rfl⟩) ?_
    · simp only [zstep, zcallV, if_true, hr]; rw [if_neg (by omega), if_neg (by omega), if_pos ⟨hk.1, hk.2.1⟩, hk.2.2.1]; simp only [List.drop_succ_cons, List.drop_zero]; exact zG_recv (hzv := hzv) ho hc2 hc hz
    · exact h v.1 v.2.1 v.2.2 b hb r h' he
theorem zG_cV3n {α : Type} {sc : ZS} {d y pc p ix w k : Nat} {ls l0 : List Slot} {st : List Value} {M : ZI} {R : ZF} {L : ZY} {o1 : Option Nat} {f : Nat → Option α} {E : α → Option Value → ZH → Prop} {m : Nat} {v1 v2 v3 : Value} {a c : Nat} (hc2 : zown k = c ∧ c < 14 ∧ zdir k = true) (ho : (if c = 12 then gos L a else gob L a c) = true) (hd : zdec y pc = some (.invokevirtual ix, 3)) (hw : zown y = w) (hr : zres w ix = some k) (hk : k < 152 ∧ zkind k = 1 ∧ znar k = 3 ∧ zml k = m) (hzv : zvir k = none) (hm : Nat.ble 4 m = true) (hE : zG sc d k 0 l0 [] (M, R, L) o1 (gEn (M, R, L))) (hc : zcats (v3 :: v2 :: v1 :: .ref a :: st) = true) (hz : zroom st = true) (hl : zent m [.ref a, v1, v2, v3] = l0) (hp : pc + 3 = p) (h : ∀ v, zG sc (d + 1) y p ls (.ref v :: st) (M, R, L) (f v) E) : zG sc (d + 1) y pc ls (v3 :: v2 :: v1 :: .ref a :: st) (M, R, L) (o1.bind f) E := by
  obtain rfl := hk.2.2.2
  subst hp; subst hw; subst hl
  intro b hb r h' he
  cases o1 with
  | none => cases hb
  | some v =>
    refine zG_callE (k := k) (as := [.ref a, v1, v2, v3]) (rest := st) (r1 := (some (.ref v))) (h1 := (M, R, L)) hd ?_ (Nat.le_of_ble_eq_true hm) (hE v rfl _ _ ⟨rfl, rfl⟩) ?_
    · simp only [zstep, zcallV, if_true, hr]; rw [if_neg (by omega), if_neg (by omega), if_pos ⟨hk.1, hk.2.1⟩, hk.2.2.1]; simp only [List.drop_succ_cons, List.drop_zero]; exact zG_recv (hzv := hzv) ho hc2 hc hz
    · exact h v b hb r h' he
theorem zG_cV3q {α : Type} {sc : ZS} {d y pc p ix w k : Nat} {ls l0 : List Slot} {st : List Value} {M : ZI} {R : ZF} {L : ZY} {o1 : Option (Nat × ZH)} {f : Nat × ZH → Option α} {E : α → Option Value → ZH → Prop} {m : Nat} {v1 v2 v3 : Value} {a c : Nat} (hc2 : zown k = c ∧ c < 14 ∧ zdir k = true) (ho : (if c = 12 then gos L a else gob L a c) = true) (hd : zdec y pc = some (.invokevirtual ix, 3)) (hw : zown y = w) (hr : zres w ix = some k) (hk : k < 152 ∧ zkind k = 1 ∧ znar k = 3 ∧ zml k = m) (hzv : zvir k = none) (hm : Nat.ble 4 m = true) (hE : zG sc d k 0 l0 [] (M, R, L) o1 gEq) (hc : zcats (v3 :: v2 :: v1 :: .ref a :: st) = true) (hz : zroom st = true) (hl : zent m [.ref a, v1, v2, v3] = l0) (hp : pc + 3 = p) (h : ∀ v M R L, zG sc (d + 1) y p ls (.ref v :: st) (M, R, L) (f (v, M, R, L)) E) : zG sc (d + 1) y pc ls (v3 :: v2 :: v1 :: .ref a :: st) (M, R, L) (o1.bind f) E := by
  obtain rfl := hk.2.2.2
  subst hp; subst hw; subst hl
  intro b hb r h' he
  cases o1 with
  | none => cases hb
  | some v =>
    refine zG_callE (k := k) (as := [.ref a, v1, v2, v3]) (rest := st) (r1 := (some (.ref v.1))) (h1 := v.2) hd ?_ (Nat.le_of_ble_eq_true hm) (hE v rfl _ _ ⟨rfl, rfl⟩) ?_
    · simp only [zstep, zcallV, if_true, hr]; rw [if_neg (by omega), if_neg (by omega), if_pos ⟨hk.1, hk.2.1⟩, hk.2.2.1]; simp only [List.drop_succ_cons, List.drop_zero]; exact zG_recv (hzv := hzv) ho hc2 hc hz
    · exact h v.1 v.2.1 v.2.2.1 v.2.2.2 b hb r h' he
theorem zG_cV4i {α : Type} {sc : ZS} {d y pc p ix w k : Nat} {ls l0 : List Slot} {st : List Value} {M : ZI} {R : ZF} {L : ZY} {o1 : Option Int32} {f : Int32 → Option α} {E : α → Option Value → ZH → Prop} {m : Nat} {v1 v2 v3 v4 : Value} {a c : Nat} (hc2 : zown k = c ∧ c < 14 ∧ zdir k = true) (ho : (if c = 12 then gos L a else gob L a c) = true) (hd : zdec y pc = some (.invokevirtual ix, 3)) (hw : zown y = w) (hr : zres w ix = some k) (hk : k < 152 ∧ zkind k = 1 ∧ znar k = 4 ∧ zml k = m) (hzv : zvir k = none) (hm : Nat.ble 5 m = true) (hE : zG sc d k 0 l0 [] (M, R, L) o1 (gEi (M, R, L))) (hc : zcats (v4 :: v3 :: v2 :: v1 :: .ref a :: st) = true) (hz : zroom st = true) (hl : zent m [.ref a, v1, v2, v3, v4] = l0) (hp : pc + 3 = p) (h : ∀ v, zG sc (d + 1) y p ls (.int v :: st) (M, R, L) (f v) E) : zG sc (d + 1) y pc ls (v4 :: v3 :: v2 :: v1 :: .ref a :: st) (M, R, L) (o1.bind f) E := by
  obtain rfl := hk.2.2.2
  subst hp; subst hw; subst hl
  intro b hb r h' he
  cases o1 with
  | none => cases hb
  | some v =>
    refine zG_callE (k := k) (as := [.ref a, v1, v2, v3, v4]) (rest := st) (r1 := (some (.int v))) (h1 := (M, R, L)) hd ?_ (Nat.le_of_ble_eq_true hm) (hE v rfl _ _ ⟨rfl, rfl⟩) ?_
    · simp only [zstep, zcallV, if_true, hr]; rw [if_neg (by omega), if_neg (by omega), if_pos ⟨hk.1, hk.2.1⟩, hk.2.2.1]; simp only [List.drop_succ_cons, List.drop_zero]; exact zG_recv (hzv := hzv) ho hc2 hc hz
    · exact h v b hb r h' he
theorem zG_cV4m {α : Type} {sc : ZS} {d y pc p ix w k : Nat} {ls l0 : List Slot} {st : List Value} {M : ZI} {R : ZF} {L : ZY} {o1 : Option (Int32 × ZH)} {f : Int32 × ZH → Option α} {E : α → Option Value → ZH → Prop} {m : Nat} {v1 v2 v3 v4 : Value} {a c : Nat} (hc2 : zown k = c ∧ c < 14 ∧ zdir k = true) (ho : (if c = 12 then gos L a else gob L a c) = true) (hd : zdec y pc = some (.invokevirtual ix, 3)) (hw : zown y = w) (hr : zres w ix = some k) (hk : k < 152 ∧ zkind k = 1 ∧ znar k = 4 ∧ zml k = m) (hzv : zvir k = none) (hm : Nat.ble 5 m = true) (hE : zG sc d k 0 l0 [] (M, R, L) o1 gEm) (hc : zcats (v4 :: v3 :: v2 :: v1 :: .ref a :: st) = true) (hz : zroom st = true) (hl : zent m [.ref a, v1, v2, v3, v4] = l0) (hp : pc + 3 = p) (h : ∀ v M R L, zG sc (d + 1) y p ls (.int v :: st) (M, R, L) (f (v, M, R, L)) E) : zG sc (d + 1) y pc ls (v4 :: v3 :: v2 :: v1 :: .ref a :: st) (M, R, L) (o1.bind f) E := by
  obtain rfl := hk.2.2.2
  subst hp; subst hw; subst hl
  intro b hb r h' he
  cases o1 with
  | none => cases hb
  | some v =>
    refine zG_callE (k := k) (as := [.ref a, v1, v2, v3, v4]) (rest := st) (r1 := (some (.int v.1))) (h1 := v.2) hd ?_ (Nat.le_of_ble_eq_true hm) (hE v rfl _ _ ⟨rfl, rfl⟩) ?_
    · simp only [zstep, zcallV, if_true, hr]; rw [if_neg (by omega), if_neg (by omega), if_pos ⟨hk.1, hk.2.1⟩, hk.2.2.1]; simp only [List.drop_succ_cons, List.drop_zero]; exact zG_recv (hzv := hzv) ho hc2 hc hz
    · exact h v.1 v.2.1 v.2.2.1 v.2.2.2 b hb r h' he
theorem zG_cV4v {α : Type} {sc : ZS} {d y pc p ix w k : Nat} {ls l0 : List Slot} {st : List Value} {M : ZI} {R : ZF} {L : ZY} {o1 : Option ZH} {f : ZH → Option α} {E : α → Option Value → ZH → Prop} {m : Nat} {v1 v2 v3 v4 : Value} {a c : Nat} (hc2 : zown k = c ∧ c < 14 ∧ zdir k = true) (ho : (if c = 12 then gos L a else gob L a c) = true) (hd : zdec y pc = some (.invokevirtual ix, 3)) (hw : zown y = w) (hr : zres w ix = some k) (hk : k < 152 ∧ zkind k = 1 ∧ znar k = 4 ∧ zml k = m) (hzv : zvir k = none) (hm : Nat.ble 5 m = true) (hE : zG sc d k 0 l0 [] (M, R, L) o1 gEv) (hc : zcats (v4 :: v3 :: v2 :: v1 :: .ref a :: st) = true) (hz : zroom st = true) (hl : zent m [.ref a, v1, v2, v3, v4] = l0) (hp : pc + 3 = p) (h : ∀ M R L, zG sc (d + 1) y p ls st (M, R, L) (f (M, R, L)) E) : zG sc (d + 1) y pc ls (v4 :: v3 :: v2 :: v1 :: .ref a :: st) (M, R, L) (o1.bind f) E := by
  obtain rfl := hk.2.2.2
  subst hp; subst hw; subst hl
  intro b hb r h' he
  cases o1 with
  | none => cases hb
  | some v =>
    refine zG_callE (k := k) (as := [.ref a, v1, v2, v3, v4]) (rest := st) (r1 := none) (h1 := v) hd ?_ (Nat.le_of_ble_eq_true hm) (hE v rfl _ _ ⟨rfl, rfl⟩) ?_
    · simp only [zstep, zcallV, if_true, hr]; rw [if_neg (by omega), if_neg (by omega), if_pos ⟨hk.1, hk.2.1⟩, hk.2.2.1]; simp only [List.drop_succ_cons, List.drop_zero]; exact zG_recv (hzv := hzv) ho hc2 hc hz
    · exact h v.1 v.2.1 v.2.2 b hb r h' he
theorem zG_cV4n {α : Type} {sc : ZS} {d y pc p ix w k : Nat} {ls l0 : List Slot} {st : List Value} {M : ZI} {R : ZF} {L : ZY} {o1 : Option Nat} {f : Nat → Option α} {E : α → Option Value → ZH → Prop} {m : Nat} {v1 v2 v3 v4 : Value} {a c : Nat} (hc2 : zown k = c ∧ c < 14 ∧ zdir k = true) (ho : (if c = 12 then gos L a else gob L a c) = true) (hd : zdec y pc = some (.invokevirtual ix, 3)) (hw : zown y = w) (hr : zres w ix = some k) (hk : k < 152 ∧ zkind k = 1 ∧ znar k = 4 ∧ zml k = m) (hzv : zvir k = none) (hm : Nat.ble 5 m = true) (hE : zG sc d k 0 l0 [] (M, R, L) o1 (gEn (M, R, L))) (hc : zcats (v4 :: v3 :: v2 :: v1 :: .ref a :: st) = true) (hz : zroom st = true) (hl : zent m [.ref a, v1, v2, v3, v4] = l0) (hp : pc + 3 = p) (h : ∀ v, zG sc (d + 1) y p ls (.ref v :: st) (M, R, L) (f v) E) : zG sc (d + 1) y pc ls (v4 :: v3 :: v2 :: v1 :: .ref a :: st) (M, R, L) (o1.bind f) E := by
  obtain rfl := hk.2.2.2
  subst hp; subst hw; subst hl
  intro b hb r h' he
  cases o1 with
  | none => cases hb
  | some v =>
    refine zG_callE (k := k) (as := [.ref a, v1, v2, v3, v4]) (rest := st) (r1 := (some (.ref v))) (h1 := (M, R, L)) hd ?_ (Nat.le_of_ble_eq_true hm) (hE v rfl _ _ ⟨rfl, rfl⟩) ?_
    · simp only [zstep, zcallV, if_true, hr]; rw [if_neg (by omega), if_neg (by omega), if_pos ⟨hk.1, hk.2.1⟩, hk.2.2.1]; simp only [List.drop_succ_cons, List.drop_zero]; exact zG_recv (hzv := hzv) ho hc2 hc hz
    · exact h v b hb r h' he
theorem zG_cV4q {α : Type} {sc : ZS} {d y pc p ix w k : Nat} {ls l0 : List Slot} {st : List Value} {M : ZI} {R : ZF} {L : ZY} {o1 : Option (Nat × ZH)} {f : Nat × ZH → Option α} {E : α → Option Value → ZH → Prop} {m : Nat} {v1 v2 v3 v4 : Value} {a c : Nat} (hc2 : zown k = c ∧ c < 14 ∧ zdir k = true) (ho : (if c = 12 then gos L a else gob L a c) = true) (hd : zdec y pc = some (.invokevirtual ix, 3)) (hw : zown y = w) (hr : zres w ix = some k) (hk : k < 152 ∧ zkind k = 1 ∧ znar k = 4 ∧ zml k = m) (hzv : zvir k = none) (hm : Nat.ble 5 m = true) (hE : zG sc d k 0 l0 [] (M, R, L) o1 gEq) (hc : zcats (v4 :: v3 :: v2 :: v1 :: .ref a :: st) = true) (hz : zroom st = true) (hl : zent m [.ref a, v1, v2, v3, v4] = l0) (hp : pc + 3 = p) (h : ∀ v M R L, zG sc (d + 1) y p ls (.ref v :: st) (M, R, L) (f (v, M, R, L)) E) : zG sc (d + 1) y pc ls (v4 :: v3 :: v2 :: v1 :: .ref a :: st) (M, R, L) (o1.bind f) E := by
  obtain rfl := hk.2.2.2
  subst hp; subst hw; subst hl
  intro b hb r h' he
  cases o1 with
  | none => cases hb
  | some v =>
    refine zG_callE (k := k) (as := [.ref a, v1, v2, v3, v4]) (rest := st) (r1 := (some (.ref v.1))) (h1 := v.2) hd ?_ (Nat.le_of_ble_eq_true hm) (hE v rfl _ _ ⟨rfl, rfl⟩) ?_
    · simp only [zstep, zcallV, if_true, hr]; rw [if_neg (by omega), if_neg (by omega), if_pos ⟨hk.1, hk.2.1⟩, hk.2.2.1]; simp only [List.drop_succ_cons, List.drop_zero]; exact zG_recv (hzv := hzv) ho hc2 hc hz
    · exact h v.1 v.2.1 v.2.2.1 v.2.2.2 b hb r h' he
theorem zG_cV5i {α : Type} {sc : ZS} {d y pc p ix w k : Nat} {ls l0 : List Slot} {st : List Value} {M : ZI} {R : ZF} {L : ZY} {o1 : Option Int32} {f : Int32 → Option α} {E : α → Option Value → ZH → Prop} {m : Nat} {v1 v2 v3 v4 v5 : Value} {a c : Nat} (hc2 : zown k = c ∧ c < 14 ∧ zdir k = true) (ho : (if c = 12 then gos L a else gob L a c) = true) (hd : zdec y pc = some (.invokevirtual ix, 3)) (hw : zown y = w) (hr : zres w ix = some k) (hk : k < 152 ∧ zkind k = 1 ∧ znar k = 5 ∧ zml k = m) (hzv : zvir k = none) (hm : Nat.ble 6 m = true) (hE : zG sc d k 0 l0 [] (M, R, L) o1 (gEi (M, R, L))) (hc : zcats (v5 :: v4 :: v3 :: v2 :: v1 :: .ref a :: st) = true) (hz : zroom st = true) (hl : zent m [.ref a, v1, v2, v3, v4, v5] = l0) (hp : pc + 3 = p) (h : ∀ v, zG sc (d + 1) y p ls (.int v :: st) (M, R, L) (f v) E) : zG sc (d + 1) y pc ls (v5 :: v4 :: v3 :: v2 :: v1 :: .ref a :: st) (M, R, L) (o1.bind f) E := by
  obtain rfl := hk.2.2.2
  subst hp; subst hw; subst hl
  intro b hb r h' he
  cases o1 with
  | none => cases hb
  | some v =>
    refine zG_callE (k := k) (as := [.ref a, v1, v2, v3, v4, v5]) (rest := st) (r1 := (some (.int v))) (h1 := (M, R, L)) hd ?_ (Nat.le_of_ble_eq_true hm) (hE v rfl _ _ ⟨rfl, rfl⟩) ?_
    · simp only [zstep, zcallV, if_true, hr]; rw [if_neg (by omega), if_neg (by omega), if_pos ⟨hk.1, hk.2.1⟩, hk.2.2.1]; simp only [List.drop_succ_cons, List.drop_zero]; exact zG_recv (hzv := hzv) ho hc2 hc hz
    · exact h v b hb r h' he
theorem zG_cV5m {α : Type} {sc : ZS} {d y pc p ix w k : Nat} {ls l0 : List Slot} {st : List Value} {M : ZI} {R : ZF} {L : ZY} {o1 : Option (Int32 × ZH)} {f : Int32 × ZH → Option α} {E : α → Option Value → ZH → Prop} {m : Nat} {v1 v2 v3 v4 v5 : Value} {a c : Nat} (hc2 : zown k = c ∧ c < 14 ∧ zdir k = true) (ho : (if c = 12 then gos L a else gob L a c) = true) (hd : zdec y pc = some (.invokevirtual ix, 3)) (hw : zown y = w) (hr : zres w ix = some k) (hk : k < 152 ∧ zkind k = 1 ∧ znar k = 5 ∧ zml k = m) (hzv : zvir k = none) (hm : Nat.ble 6 m = true) (hE : zG sc d k 0 l0 [] (M, R, L) o1 gEm) (hc : zcats (v5 :: v4 :: v3 :: v2 :: v1 :: .ref a :: st) = true) (hz : zroom st = true) (hl : zent m [.ref a, v1, v2, v3, v4, v5] = l0) (hp : pc + 3 = p) (h : ∀ v M R L, zG sc (d + 1) y p ls (.int v :: st) (M, R, L) (f (v, M, R, L)) E) : zG sc (d + 1) y pc ls (v5 :: v4 :: v3 :: v2 :: v1 :: .ref a :: st) (M, R, L) (o1.bind f) E := by
  obtain rfl := hk.2.2.2
  subst hp; subst hw; subst hl
  intro b hb r h' he
  cases o1 with
  | none => cases hb
  | some v =>
    refine zG_callE (k := k) (as := [.ref a, v1, v2, v3, v4, v5]) (rest := st) (r1 := (some (.int v.1))) (h1 := v.2) hd ?_ (Nat.le_of_ble_eq_true hm) (hE v rfl _ _ ⟨rfl, rfl⟩) ?_
    · simp only [zstep, zcallV, if_true, hr]; rw [if_neg (by omega), if_neg (by omega), if_pos ⟨hk.1, hk.2.1⟩, hk.2.2.1]; simp only [List.drop_succ_cons, List.drop_zero]; exact zG_recv (hzv := hzv) ho hc2 hc hz
    · exact h v.1 v.2.1 v.2.2.1 v.2.2.2 b hb r h' he
theorem zG_cV5v {α : Type} {sc : ZS} {d y pc p ix w k : Nat} {ls l0 : List Slot} {st : List Value} {M : ZI} {R : ZF} {L : ZY} {o1 : Option ZH} {f : ZH → Option α} {E : α → Option Value → ZH → Prop} {m : Nat} {v1 v2 v3 v4 v5 : Value} {a c : Nat} (hc2 : zown k = c ∧ c < 14 ∧ zdir k = true) (ho : (if c = 12 then gos L a else gob L a c) = true) (hd : zdec y pc = some (.invokevirtual ix, 3)) (hw : zown y = w) (hr : zres w ix = some k) (hk : k < 152 ∧ zkind k = 1 ∧ znar k = 5 ∧ zml k = m) (hzv : zvir k = none) (hm : Nat.ble 6 m = true) (hE : zG sc d k 0 l0 [] (M, R, L) o1 gEv) (hc : zcats (v5 :: v4 :: v3 :: v2 :: v1 :: .ref a :: st) = true) (hz : zroom st = true) (hl : zent m [.ref a, v1, v2, v3, v4, v5] = l0) (hp : pc + 3 = p) (h : ∀ M R L, zG sc (d + 1) y p ls st (M, R, L) (f (M, R, L)) E) : zG sc (d + 1) y pc ls (v5 :: v4 :: v3 :: v2 :: v1 :: .ref a :: st) (M, R, L) (o1.bind f) E := by
  obtain rfl := hk.2.2.2
  subst hp; subst hw; subst hl
  intro b hb r h' he
  cases o1 with
  | none => cases hb
  | some v =>
    refine zG_callE (k := k) (as := [.ref a, v1, v2, v3, v4, v5]) (rest := st) (r1 := none) (h1 := v) hd ?_ (Nat.le_of_ble_eq_true hm) (hE v rfl _ _ ⟨rfl, rfl⟩) ?_
    · simp only [zstep, zcallV, if_true, hr]; rw [if_neg (by omega), if_neg (by omega), if_pos ⟨hk.1, hk.2.1⟩, hk.2.2.1]; simp only [List.drop_succ_cons, List.drop_zero]; exact zG_recv (hzv := hzv) ho hc2 hc hz
    · exact h v.1 v.2.1 v.2.2 b hb r h' he
theorem zG_cV5n {α : Type} {sc : ZS} {d y pc p ix w k : Nat} {ls l0 : List Slot} {st : List Value} {M : ZI} {R : ZF} {L : ZY} {o1 : Option Nat} {f : Nat → Option α} {E : α → Option Value → ZH → Prop} {m : Nat} {v1 v2 v3 v4 v5 : Value} {a c : Nat} (hc2 : zown k = c ∧ c < 14 ∧ zdir k = true) (ho : (if c = 12 then gos L a else gob L a c) = true) (hd : zdec y pc = some (.invokevirtual ix, 3)) (hw : zown y = w) (hr : zres w ix = some k) (hk : k < 152 ∧ zkind k = 1 ∧ znar k = 5 ∧ zml k = m) (hzv : zvir k = none) (hm : Nat.ble 6 m = true) (hE : zG sc d k 0 l0 [] (M, R, L) o1 (gEn (M, R, L))) (hc : zcats (v5 :: v4 :: v3 :: v2 :: v1 :: .ref a :: st) = true) (hz : zroom st = true) (hl : zent m [.ref a, v1, v2, v3, v4, v5] = l0) (hp : pc + 3 = p) (h : ∀ v, zG sc (d + 1) y p ls (.ref v :: st) (M, R, L) (f v) E) : zG sc (d + 1) y pc ls (v5 :: v4 :: v3 :: v2 :: v1 :: .ref a :: st) (M, R, L) (o1.bind f) E := by
  obtain rfl := hk.2.2.2
  subst hp; subst hw; subst hl
  intro b hb r h' he
  cases o1 with
  | none => cases hb
  | some v =>
    refine zG_callE (k := k) (as := [.ref a, v1, v2, v3, v4, v5]) (rest := st) (r1 := (some (.ref v))) (h1 := (M, R, L)) hd ?_ (Nat.le_of_ble_eq_true hm) (hE v rfl _ _ ⟨rfl, rfl⟩) ?_
    · simp only [zstep, zcallV, if_true, hr]; rw [if_neg (by omega), if_neg (by omega), if_pos ⟨hk.1, hk.2.1⟩, hk.2.2.1]; simp only [List.drop_succ_cons, List.drop_zero]; exact zG_recv (hzv := hzv) ho hc2 hc hz
    · exact h v b hb r h' he
theorem zG_cV5q {α : Type} {sc : ZS} {d y pc p ix w k : Nat} {ls l0 : List Slot} {st : List Value} {M : ZI} {R : ZF} {L : ZY} {o1 : Option (Nat × ZH)} {f : Nat × ZH → Option α} {E : α → Option Value → ZH → Prop} {m : Nat} {v1 v2 v3 v4 v5 : Value} {a c : Nat} (hc2 : zown k = c ∧ c < 14 ∧ zdir k = true) (ho : (if c = 12 then gos L a else gob L a c) = true) (hd : zdec y pc = some (.invokevirtual ix, 3)) (hw : zown y = w) (hr : zres w ix = some k) (hk : k < 152 ∧ zkind k = 1 ∧ znar k = 5 ∧ zml k = m) (hzv : zvir k = none) (hm : Nat.ble 6 m = true) (hE : zG sc d k 0 l0 [] (M, R, L) o1 gEq) (hc : zcats (v5 :: v4 :: v3 :: v2 :: v1 :: .ref a :: st) = true) (hz : zroom st = true) (hl : zent m [.ref a, v1, v2, v3, v4, v5] = l0) (hp : pc + 3 = p) (h : ∀ v M R L, zG sc (d + 1) y p ls (.ref v :: st) (M, R, L) (f (v, M, R, L)) E) : zG sc (d + 1) y pc ls (v5 :: v4 :: v3 :: v2 :: v1 :: .ref a :: st) (M, R, L) (o1.bind f) E := by
  obtain rfl := hk.2.2.2
  subst hp; subst hw; subst hl
  intro b hb r h' he
  cases o1 with
  | none => cases hb
  | some v =>
    refine zG_callE (k := k) (as := [.ref a, v1, v2, v3, v4, v5]) (rest := st) (r1 := (some (.ref v.1))) (h1 := v.2) hd ?_ (Nat.le_of_ble_eq_true hm) (hE v rfl _ _ ⟨rfl, rfl⟩) ?_
    · simp only [zstep, zcallV, if_true, hr]; rw [if_neg (by omega), if_neg (by omega), if_pos ⟨hk.1, hk.2.1⟩, hk.2.2.1]; simp only [List.drop_succ_cons, List.drop_zero]; exact zG_recv (hzv := hzv) ho hc2 hc hz
    · exact h v.1 v.2.1 v.2.2.1 v.2.2.2 b hb r h' he
theorem zG_cV6i {α : Type} {sc : ZS} {d y pc p ix w k : Nat} {ls l0 : List Slot} {st : List Value} {M : ZI} {R : ZF} {L : ZY} {o1 : Option Int32} {f : Int32 → Option α} {E : α → Option Value → ZH → Prop} {m : Nat} {v1 v2 v3 v4 v5 v6 : Value} {a c : Nat} (hc2 : zown k = c ∧ c < 14 ∧ zdir k = true) (ho : (if c = 12 then gos L a else gob L a c) = true) (hd : zdec y pc = some (.invokevirtual ix, 3)) (hw : zown y = w) (hr : zres w ix = some k) (hk : k < 152 ∧ zkind k = 1 ∧ znar k = 6 ∧ zml k = m) (hzv : zvir k = none) (hm : Nat.ble 7 m = true) (hE : zG sc d k 0 l0 [] (M, R, L) o1 (gEi (M, R, L))) (hc : zcats (v6 :: v5 :: v4 :: v3 :: v2 :: v1 :: .ref a :: st) = true) (hz : zroom st = true) (hl : zent m [.ref a, v1, v2, v3, v4, v5, v6] = l0) (hp : pc + 3 = p) (h : ∀ v, zG sc (d + 1) y p ls (.int v :: st) (M, R, L) (f v) E) : zG sc (d + 1) y pc ls (v6 :: v5 :: v4 :: v3 :: v2 :: v1 :: .ref a :: st) (M, R, L) (o1.bind f) E := by
  obtain rfl := hk.2.2.2
  subst hp; subst hw; subst hl
  intro b hb r h' he
  cases o1 with
  | none => cases hb
  | some v =>
    refine zG_callE (k := k) (as := [.ref a, v1, v2, v3, v4, v5, v6]) (rest := st) (r1 := (some (.int v))) (h1 := (M, R, L)) hd ?_ (Nat.le_of_ble_eq_true hm) (hE v rfl _ _ ⟨rfl, rfl⟩) ?_
    · simp only [zstep, zcallV, if_true, hr]; rw [if_neg (by omega), if_neg (by omega), if_pos ⟨hk.1, hk.2.1⟩, hk.2.2.1]; simp only [List.drop_succ_cons, List.drop_zero]; exact zG_recv (hzv := hzv) ho hc2 hc hz
    · exact h v b hb r h' he
theorem zG_cV6m {α : Type} {sc : ZS} {d y pc p ix w k : Nat} {ls l0 : List Slot} {st : List Value} {M : ZI} {R : ZF} {L : ZY} {o1 : Option (Int32 × ZH)} {f : Int32 × ZH → Option α} {E : α → Option Value → ZH → Prop} {m : Nat} {v1 v2 v3 v4 v5 v6 : Value} {a c : Nat} (hc2 : zown k = c ∧ c < 14 ∧ zdir k = true) (ho : (if c = 12 then gos L a else gob L a c) = true) (hd : zdec y pc = some (.invokevirtual ix, 3)) (hw : zown y = w) (hr : zres w ix = some k) (hk : k < 152 ∧ zkind k = 1 ∧ znar k = 6 ∧ zml k = m) (hzv : zvir k = none) (hm : Nat.ble 7 m = true) (hE : zG sc d k 0 l0 [] (M, R, L) o1 gEm) (hc : zcats (v6 :: v5 :: v4 :: v3 :: v2 :: v1 :: .ref a :: st) = true) (hz : zroom st = true) (hl : zent m [.ref a, v1, v2, v3, v4, v5, v6] = l0) (hp : pc + 3 = p) (h : ∀ v M R L, zG sc (d + 1) y p ls (.int v :: st) (M, R, L) (f (v, M, R, L)) E) : zG sc (d + 1) y pc ls (v6 :: v5 :: v4 :: v3 :: v2 :: v1 :: .ref a :: st) (M, R, L) (o1.bind f) E := by
  obtain rfl := hk.2.2.2
  subst hp; subst hw; subst hl
  intro b hb r h' he
  cases o1 with
  | none => cases hb
  | some v =>
    refine zG_callE (k := k) (as := [.ref a, v1, v2, v3, v4, v5, v6]) (rest := st) (r1 := (some (.int v.1))) (h1 := v.2) hd ?_ (Nat.le_of_ble_eq_true hm) (hE v rfl _ _ ⟨rfl, rfl⟩) ?_
    · simp only [zstep, zcallV, if_true, hr]; rw [if_neg (by omega), if_neg (by omega), if_pos ⟨hk.1, hk.2.1⟩, hk.2.2.1]; simp only [List.drop_succ_cons, List.drop_zero]; exact zG_recv (hzv := hzv) ho hc2 hc hz
    · exact h v.1 v.2.1 v.2.2.1 v.2.2.2 b hb r h' he
theorem zG_cV6v {α : Type} {sc : ZS} {d y pc p ix w k : Nat} {ls l0 : List Slot} {st : List Value} {M : ZI} {R : ZF} {L : ZY} {o1 : Option ZH} {f : ZH → Option α} {E : α → Option Value → ZH → Prop} {m : Nat} {v1 v2 v3 v4 v5 v6 : Value} {a c : Nat} (hc2 : zown k = c ∧ c < 14 ∧ zdir k = true) (ho : (if c = 12 then gos L a else gob L a c) = true) (hd : zdec y pc = some (.invokevirtual ix, 3)) (hw : zown y = w) (hr : zres w ix = some k) (hk : k < 152 ∧ zkind k = 1 ∧ znar k = 6 ∧ zml k = m) (hzv : zvir k = none) (hm : Nat.ble 7 m = true) (hE : zG sc d k 0 l0 [] (M, R, L) o1 gEv) (hc : zcats (v6 :: v5 :: v4 :: v3 :: v2 :: v1 :: .ref a :: st) = true) (hz : zroom st = true) (hl : zent m [.ref a, v1, v2, v3, v4, v5, v6] = l0) (hp : pc + 3 = p) (h : ∀ M R L, zG sc (d + 1) y p ls st (M, R, L) (f (M, R, L)) E) : zG sc (d + 1) y pc ls (v6 :: v5 :: v4 :: v3 :: v2 :: v1 :: .ref a :: st) (M, R, L) (o1.bind f) E := by
  obtain rfl := hk.2.2.2
  subst hp; subst hw; subst hl
  intro b hb r h' he
  cases o1 with
  | none => cases hb
  | some v =>
    refine zG_callE (k := k) (as := [.ref a, v1, v2, v3, v4, v5, v6]) (rest := st) (r1 := none) (h1 := v) hd ?_ (Nat.le_of_ble_eq_true hm) (hE v rfl _ _ ⟨rfl, rfl⟩) ?_
    · simp only [zstep, zcallV, if_true, hr]; rw [if_neg (by omega), if_neg (by omega), if_pos ⟨hk.1, hk.2.1⟩, hk.2.2.1]; simp only [List.drop_succ_cons, List.drop_zero]; exact zG_recv (hzv := hzv) ho hc2 hc hz
    · exact h v.1 v.2.1 v.2.2 b hb r h' he
theorem zG_cV6n {α : Type} {sc : ZS} {d y pc p ix w k : Nat} {ls l0 : List Slot} {st : List Value} {M : ZI} {R : ZF} {L : ZY} {o1 : Option Nat} {f : Nat → Option α} {E : α → Option Value → ZH → Prop} {m : Nat} {v1 v2 v3 v4 v5 v6 : Value} {a c : Nat} (hc2 : zown k = c ∧ c < 14 ∧ zdir k = true) (ho : (if c = 12 then gos L a else gob L a c) = true) (hd : zdec y pc = some (.invokevirtual ix, 3)) (hw : zown y = w) (hr : zres w ix = some k) (hk : k < 152 ∧ zkind k = 1 ∧ znar k = 6 ∧ zml k = m) (hzv : zvir k = none) (hm : Nat.ble 7 m = true) (hE : zG sc d k 0 l0 [] (M, R, L) o1 (gEn (M, R, L))) (hc : zcats (v6 :: v5 :: v4 :: v3 :: v2 :: v1 :: .ref a :: st) = true) (hz : zroom st = true) (hl : zent m [.ref a, v1, v2, v3, v4, v5, v6] = l0) (hp : pc + 3 = p) (h : ∀ v, zG sc (d + 1) y p ls (.ref v :: st) (M, R, L) (f v) E) : zG sc (d + 1) y pc ls (v6 :: v5 :: v4 :: v3 :: v2 :: v1 :: .ref a :: st) (M, R, L) (o1.bind f) E := by
  obtain rfl := hk.2.2.2
  subst hp; subst hw; subst hl
  intro b hb r h' he
  cases o1 with
  | none => cases hb
  | some v =>
    refine zG_callE (k := k) (as := [.ref a, v1, v2, v3, v4, v5, v6]) (rest := st) (r1 := (some (.ref v))) (h1 := (M, R, L)) hd ?_ (Nat.le_of_ble_eq_true hm) (hE v rfl _ _ ⟨rfl, rfl⟩) ?_
    · simp only [zstep, zcallV, if_true, hr]; rw [if_neg (by omega), if_neg (by omega), if_pos ⟨hk.1, hk.2.1⟩, hk.2.2.1]; simp only [List.drop_succ_cons, List.drop_zero]; exact zG_recv (hzv := hzv) ho hc2 hc hz
    · exact h v b hb r h' he
theorem zG_cV6q {α : Type} {sc : ZS} {d y pc p ix w k : Nat} {ls l0 : List Slot} {st : List Value} {M : ZI} {R : ZF} {L : ZY} {o1 : Option (Nat × ZH)} {f : Nat × ZH → Option α} {E : α → Option Value → ZH → Prop} {m : Nat} {v1 v2 v3 v4 v5 v6 : Value} {a c : Nat} (hc2 : zown k = c ∧ c < 14 ∧ zdir k = true) (ho : (if c = 12 then gos L a else gob L a c) = true) (hd : zdec y pc = some (.invokevirtual ix, 3)) (hw : zown y = w) (hr : zres w ix = some k) (hk : k < 152 ∧ zkind k = 1 ∧ znar k = 6 ∧ zml k = m) (hzv : zvir k = none) (hm : Nat.ble 7 m = true) (hE : zG sc d k 0 l0 [] (M, R, L) o1 gEq) (hc : zcats (v6 :: v5 :: v4 :: v3 :: v2 :: v1 :: .ref a :: st) = true) (hz : zroom st = true) (hl : zent m [.ref a, v1, v2, v3, v4, v5, v6] = l0) (hp : pc + 3 = p) (h : ∀ v M R L, zG sc (d + 1) y p ls (.ref v :: st) (M, R, L) (f (v, M, R, L)) E) : zG sc (d + 1) y pc ls (v6 :: v5 :: v4 :: v3 :: v2 :: v1 :: .ref a :: st) (M, R, L) (o1.bind f) E := by
  obtain rfl := hk.2.2.2
  subst hp; subst hw; subst hl
  intro b hb r h' he
  cases o1 with
  | none => cases hb
  | some v =>
    refine zG_callE (k := k) (as := [.ref a, v1, v2, v3, v4, v5, v6]) (rest := st) (r1 := (some (.ref v.1))) (h1 := v.2) hd ?_ (Nat.le_of_ble_eq_true hm) (hE v rfl _ _ ⟨rfl, rfl⟩) ?_
    · simp only [zstep, zcallV, if_true, hr]; rw [if_neg (by omega), if_neg (by omega), if_pos ⟨hk.1, hk.2.1⟩, hk.2.2.1]; simp only [List.drop_succ_cons, List.drop_zero]; exact zG_recv (hzv := hzv) ho hc2 hc hz
    · exact h v.1 v.2.1 v.2.2.1 v.2.2.2 b hb r h' he
theorem zG_cI0v {α : Type} {sc : ZS} {d y pc p ix w k : Nat} {ls l0 : List Slot} {st : List Value} {M : ZI} {R : ZF} {L : ZY} {o1 : Option ZH} {f : ZH → Option α} {E : α → Option Value → ZH → Prop} {m : Nat} {a : Nat} (ho : gin a = true) (hd : zdec y pc = some (.invokespecial ix, 3)) (hw : zown y = w) (hr : zres w ix = some k) (hk : k < 152 ∧ zkind k = 2 ∧ znar k = 0 ∧ zml k = m) (hm : Nat.ble 1 m = true) (hE : zG sc d k 0 l0 [] (M, R, L) o1 gEv) (hc : zcats (.ref a :: st) = true) (hz : zroom st = true) (hl : zent m [.ref a] = l0) (hp : pc + 3 = p) (h : ∀ M R L, zG sc (d + 1) y p ls st (M, R, L) (f (M, R, L)) E) : zG sc (d + 1) y pc ls (.ref a :: st) (M, R, L) (o1.bind f) E := by
  obtain rfl := hk.2.2.2
  subst hp; subst hw; subst hl
  intro b hb r h' he
  cases o1 with
  | none => cases hb
  | some v =>
    refine zG_callE (k := k) (as := [.ref a]) (rest := st) (r1 := none) (h1 := v) hd ?_ (Nat.le_of_ble_eq_true hm) (hE v rfl _ _ ⟨rfl, rfl⟩) ?_
    · simp only [zstep, zcallI, if_true, hr]; rw [if_neg (by omega), if_pos ⟨hk.1, hk.2.1⟩, hk.2.2.1]; simp only [List.drop_succ_cons, List.drop_zero]; rw [if_pos ⟨Nat.blt_eq.mp ho, hc, hz⟩]; rfl
    · exact h v.1 v.2.1 v.2.2 b hb r h' he
theorem zG_cI1v {α : Type} {sc : ZS} {d y pc p ix w k : Nat} {ls l0 : List Slot} {st : List Value} {M : ZI} {R : ZF} {L : ZY} {o1 : Option ZH} {f : ZH → Option α} {E : α → Option Value → ZH → Prop} {m : Nat} {v1 : Value} {a : Nat} (ho : gin a = true) (hd : zdec y pc = some (.invokespecial ix, 3)) (hw : zown y = w) (hr : zres w ix = some k) (hk : k < 152 ∧ zkind k = 2 ∧ znar k = 1 ∧ zml k = m) (hm : Nat.ble 2 m = true) (hE : zG sc d k 0 l0 [] (M, R, L) o1 gEv) (hc : zcats (v1 :: .ref a :: st) = true) (hz : zroom st = true) (hl : zent m [.ref a, v1] = l0) (hp : pc + 3 = p) (h : ∀ M R L, zG sc (d + 1) y p ls st (M, R, L) (f (M, R, L)) E) : zG sc (d + 1) y pc ls (v1 :: .ref a :: st) (M, R, L) (o1.bind f) E := by
  obtain rfl := hk.2.2.2
  subst hp; subst hw; subst hl
  intro b hb r h' he
  cases o1 with
  | none => cases hb
  | some v =>
    refine zG_callE (k := k) (as := [.ref a, v1]) (rest := st) (r1 := none) (h1 := v) hd ?_ (Nat.le_of_ble_eq_true hm) (hE v rfl _ _ ⟨rfl, rfl⟩) ?_
    · simp only [zstep, zcallI, if_true, hr]; rw [if_neg (by omega), if_pos ⟨hk.1, hk.2.1⟩, hk.2.2.1]; simp only [List.drop_succ_cons, List.drop_zero]; rw [if_pos ⟨Nat.blt_eq.mp ho, hc, hz⟩]; rfl
    · exact h v.1 v.2.1 v.2.2 b hb r h' he
theorem zG_cI2v {α : Type} {sc : ZS} {d y pc p ix w k : Nat} {ls l0 : List Slot} {st : List Value} {M : ZI} {R : ZF} {L : ZY} {o1 : Option ZH} {f : ZH → Option α} {E : α → Option Value → ZH → Prop} {m : Nat} {v1 v2 : Value} {a : Nat} (ho : gin a = true) (hd : zdec y pc = some (.invokespecial ix, 3)) (hw : zown y = w) (hr : zres w ix = some k) (hk : k < 152 ∧ zkind k = 2 ∧ znar k = 2 ∧ zml k = m) (hm : Nat.ble 3 m = true) (hE : zG sc d k 0 l0 [] (M, R, L) o1 gEv) (hc : zcats (v2 :: v1 :: .ref a :: st) = true) (hz : zroom st = true) (hl : zent m [.ref a, v1, v2] = l0) (hp : pc + 3 = p) (h : ∀ M R L, zG sc (d + 1) y p ls st (M, R, L) (f (M, R, L)) E) : zG sc (d + 1) y pc ls (v2 :: v1 :: .ref a :: st) (M, R, L) (o1.bind f) E := by
  obtain rfl := hk.2.2.2
  subst hp; subst hw; subst hl
  intro b hb r h' he
  cases o1 with
  | none => cases hb
  | some v =>
    refine zG_callE (k := k) (as := [.ref a, v1, v2]) (rest := st) (r1 := none) (h1 := v) hd ?_ (Nat.le_of_ble_eq_true hm) (hE v rfl _ _ ⟨rfl, rfl⟩) ?_
    · simp only [zstep, zcallI, if_true, hr]; rw [if_neg (by omega), if_pos ⟨hk.1, hk.2.1⟩, hk.2.2.1]; simp only [List.drop_succ_cons, List.drop_zero]; rw [if_pos ⟨Nat.blt_eq.mp ho, hc, hz⟩]; rfl
    · exact h v.1 v.2.1 v.2.2 b hb r h' he
theorem zG_cI3v {α : Type} {sc : ZS} {d y pc p ix w k : Nat} {ls l0 : List Slot} {st : List Value} {M : ZI} {R : ZF} {L : ZY} {o1 : Option ZH} {f : ZH → Option α} {E : α → Option Value → ZH → Prop} {m : Nat} {v1 v2 v3 : Value} {a : Nat} (ho : gin a = true) (hd : zdec y pc = some (.invokespecial ix, 3)) (hw : zown y = w) (hr : zres w ix = some k) (hk : k < 152 ∧ zkind k = 2 ∧ znar k = 3 ∧ zml k = m) (hm : Nat.ble 4 m = true) (hE : zG sc d k 0 l0 [] (M, R, L) o1 gEv) (hc : zcats (v3 :: v2 :: v1 :: .ref a :: st) = true) (hz : zroom st = true) (hl : zent m [.ref a, v1, v2, v3] = l0) (hp : pc + 3 = p) (h : ∀ M R L, zG sc (d + 1) y p ls st (M, R, L) (f (M, R, L)) E) : zG sc (d + 1) y pc ls (v3 :: v2 :: v1 :: .ref a :: st) (M, R, L) (o1.bind f) E := by
  obtain rfl := hk.2.2.2
  subst hp; subst hw; subst hl
  intro b hb r h' he
  cases o1 with
  | none => cases hb
  | some v =>
    refine zG_callE (k := k) (as := [.ref a, v1, v2, v3]) (rest := st) (r1 := none) (h1 := v) hd ?_ (Nat.le_of_ble_eq_true hm) (hE v rfl _ _ ⟨rfl, rfl⟩) ?_
    · simp only [zstep, zcallI, if_true, hr]; rw [if_neg (by omega), if_pos ⟨hk.1, hk.2.1⟩, hk.2.2.1]; simp only [List.drop_succ_cons, List.drop_zero]; rw [if_pos ⟨Nat.blt_eq.mp ho, hc, hz⟩]; rfl
    · exact h v.1 v.2.1 v.2.2 b hb r h' he
theorem zG_cI4v {α : Type} {sc : ZS} {d y pc p ix w k : Nat} {ls l0 : List Slot} {st : List Value} {M : ZI} {R : ZF} {L : ZY} {o1 : Option ZH} {f : ZH → Option α} {E : α → Option Value → ZH → Prop} {m : Nat} {v1 v2 v3 v4 : Value} {a : Nat} (ho : gin a = true) (hd : zdec y pc = some (.invokespecial ix, 3)) (hw : zown y = w) (hr : zres w ix = some k) (hk : k < 152 ∧ zkind k = 2 ∧ znar k = 4 ∧ zml k = m) (hm : Nat.ble 5 m = true) (hE : zG sc d k 0 l0 [] (M, R, L) o1 gEv) (hc : zcats (v4 :: v3 :: v2 :: v1 :: .ref a :: st) = true) (hz : zroom st = true) (hl : zent m [.ref a, v1, v2, v3, v4] = l0) (hp : pc + 3 = p) (h : ∀ M R L, zG sc (d + 1) y p ls st (M, R, L) (f (M, R, L)) E) : zG sc (d + 1) y pc ls (v4 :: v3 :: v2 :: v1 :: .ref a :: st) (M, R, L) (o1.bind f) E := by
  obtain rfl := hk.2.2.2
  subst hp; subst hw; subst hl
  intro b hb r h' he
  cases o1 with
  | none => cases hb
  | some v =>
    refine zG_callE (k := k) (as := [.ref a, v1, v2, v3, v4]) (rest := st) (r1 := none) (h1 := v) hd ?_ (Nat.le_of_ble_eq_true hm) (hE v rfl _ _ ⟨rfl, rfl⟩) ?_
    · simp only [zstep, zcallI, if_true, hr]; rw [if_neg (by omega), if_pos ⟨hk.1, hk.2.1⟩, hk.2.2.1]; simp only [List.drop_succ_cons, List.drop_zero]; rw [if_pos ⟨Nat.blt_eq.mp ho, hc, hz⟩]; rfl
    · exact h v.1 v.2.1 v.2.2 b hb r h' he
theorem zG_cU0i {α : Type} {sc : ZS} {d y pc p ix w k : Nat} {ls l0 : List Slot} {st : List Value} {M : ZI} {R : ZF} {L : ZY} {o1 : Option Int32} {f : Int32 → Option α} {E : α → Option Value → ZH → Prop} {m : Nat} {a k0 : Nat} {pv : Bool} (h0 : k0 < 152 ∧ zkind k0 = 1 ∧ znar k0 = 0 ∧ zvir k0 = some (k, pv)) (ho : gob L a 11 = true) (hd : zdec y pc = some (.invokevirtual ix, 3)) (hw : zown y = w) (hr : zres w ix = some k0) (hk : k < 152 ∧ zkind k = 1 ∧ znar k = 0 ∧ zml k = m) (hm : Nat.ble 1 m = true) (hE : zG sc d k 0 l0 [] (M, R, L) o1 (gEi (M, R, L))) (hc : zcats (.ref a :: st) = true) (hz : zroom st = true) (hl : zent m [.ref a] = l0) (hp : pc + 3 = p) (h : ∀ v, zG sc (d + 1) y p ls (.int v :: st) (M, R, L) (f v) E) : zG sc (d + 1) y pc ls (.ref a :: st) (M, R, L) (o1.bind f) E := by
  obtain rfl := hk.2.2.2
  subst hp; subst hw; subst hl
  intro b hb r h' he
  cases o1 with
  | none => cases hb
  | some v =>
    refine zG_callE (k := k) (as := [.ref a]) (rest := st) (r1 := (some (.int v))) (h1 := (M, R, L)) hd ?_ (Nat.le_of_ble_eq_true hm) (hE v rfl _ _ ⟨rfl, rfl⟩) ?_
    · simp only [zstep, zcallV, if_true, hr]; rw [if_neg (by omega), if_neg (by omega), if_pos ⟨h0.1, h0.2.1⟩, h0.2.2.1]; simp only [List.drop_succ_cons, List.drop_zero]; rw [zG_inh ho h0.2.2.2]; simp only; rw [if_pos ⟨hc, hz⟩]; rfl
    · exact h v b hb r h' he
theorem zG_cU0m {α : Type} {sc : ZS} {d y pc p ix w k : Nat} {ls l0 : List Slot} {st : List Value} {M : ZI} {R : ZF} {L : ZY} {o1 : Option (Int32 × ZH)} {f : Int32 × ZH → Option α} {E : α → Option Value → ZH → Prop} {m : Nat} {a k0 : Nat} {pv : Bool} (h0 : k0 < 152 ∧ zkind k0 = 1 ∧ znar k0 = 0 ∧ zvir k0 = some (k, pv)) (ho : gob L a 11 = true) (hd : zdec y pc = some (.invokevirtual ix, 3)) (hw : zown y = w) (hr : zres w ix = some k0) (hk : k < 152 ∧ zkind k = 1 ∧ znar k = 0 ∧ zml k = m) (hm : Nat.ble 1 m = true) (hE : zG sc d k 0 l0 [] (M, R, L) o1 gEm) (hc : zcats (.ref a :: st) = true) (hz : zroom st = true) (hl : zent m [.ref a] = l0) (hp : pc + 3 = p) (h : ∀ v M R L, zG sc (d + 1) y p ls (.int v :: st) (M, R, L) (f (v, M, R, L)) E) : zG sc (d + 1) y pc ls (.ref a :: st) (M, R, L) (o1.bind f) E := by
  obtain rfl := hk.2.2.2
  subst hp; subst hw; subst hl
  intro b hb r h' he
  cases o1 with
  | none => cases hb
  | some v =>
    refine zG_callE (k := k) (as := [.ref a]) (rest := st) (r1 := (some (.int v.1))) (h1 := v.2) hd ?_ (Nat.le_of_ble_eq_true hm) (hE v rfl _ _ ⟨rfl, rfl⟩) ?_
    · simp only [zstep, zcallV, if_true, hr]; rw [if_neg (by omega), if_neg (by omega), if_pos ⟨h0.1, h0.2.1⟩, h0.2.2.1]; simp only [List.drop_succ_cons, List.drop_zero]; rw [zG_inh ho h0.2.2.2]; simp only; rw [if_pos ⟨hc, hz⟩]; rfl
    · exact h v.1 v.2.1 v.2.2.1 v.2.2.2 b hb r h' he
theorem zG_cU0v {α : Type} {sc : ZS} {d y pc p ix w k : Nat} {ls l0 : List Slot} {st : List Value} {M : ZI} {R : ZF} {L : ZY} {o1 : Option ZH} {f : ZH → Option α} {E : α → Option Value → ZH → Prop} {m : Nat} {a k0 : Nat} {pv : Bool} (h0 : k0 < 152 ∧ zkind k0 = 1 ∧ znar k0 = 0 ∧ zvir k0 = some (k, pv)) (ho : gob L a 11 = true) (hd : zdec y pc = some (.invokevirtual ix, 3)) (hw : zown y = w) (hr : zres w ix = some k0) (hk : k < 152 ∧ zkind k = 1 ∧ znar k = 0 ∧ zml k = m) (hm : Nat.ble 1 m = true) (hE : zG sc d k 0 l0 [] (M, R, L) o1 gEv) (hc : zcats (.ref a :: st) = true) (hz : zroom st = true) (hl : zent m [.ref a] = l0) (hp : pc + 3 = p) (h : ∀ M R L, zG sc (d + 1) y p ls st (M, R, L) (f (M, R, L)) E) : zG sc (d + 1) y pc ls (.ref a :: st) (M, R, L) (o1.bind f) E := by
  obtain rfl := hk.2.2.2
  subst hp; subst hw; subst hl
  intro b hb r h' he
  cases o1 with
  | none => cases hb
  | some v =>
    refine zG_callE (k := k) (as := [.ref a]) (rest := st) (r1 := none) (h1 := v) hd ?_ (Nat.le_of_ble_eq_true hm) (hE v rfl _ _ ⟨rfl, rfl⟩) ?_
    · simp only [zstep, zcallV, if_true, hr]; rw [if_neg (by omega), if_neg (by omega), if_pos ⟨h0.1, h0.2.1⟩, h0.2.2.1]; simp only [List.drop_succ_cons, List.drop_zero]; rw [zG_inh ho h0.2.2.2]; simp only; rw [if_pos ⟨hc, hz⟩]; rfl
    · exact h v.1 v.2.1 v.2.2 b hb r h' he
theorem zG_cU0n {α : Type} {sc : ZS} {d y pc p ix w k : Nat} {ls l0 : List Slot} {st : List Value} {M : ZI} {R : ZF} {L : ZY} {o1 : Option Nat} {f : Nat → Option α} {E : α → Option Value → ZH → Prop} {m : Nat} {a k0 : Nat} {pv : Bool} (h0 : k0 < 152 ∧ zkind k0 = 1 ∧ znar k0 = 0 ∧ zvir k0 = some (k, pv)) (ho : gob L a 11 = true) (hd : zdec y pc = some (.invokevirtual ix, 3)) (hw : zown y = w) (hr : zres w ix = some k0) (hk : k < 152 ∧ zkind k = 1 ∧ znar k = 0 ∧ zml k = m) (hm : Nat.ble 1 m = true) (hE : zG sc d k 0 l0 [] (M, R, L) o1 (gEn (M, R, L))) (hc : zcats (.ref a :: st) = true) (hz : zroom st = true) (hl : zent m [.ref a] = l0) (hp : pc + 3 = p) (h : ∀ v, zG sc (d + 1) y p ls (.ref v :: st) (M, R, L) (f v) E) : zG sc (d + 1) y pc ls (.ref a :: st) (M, R, L) (o1.bind f) E := by
  obtain rfl := hk.2.2.2
  subst hp; subst hw; subst hl
  intro b hb r h' he
  cases o1 with
  | none => cases hb
  | some v =>
    refine zG_callE (k := k) (as := [.ref a]) (rest := st) (r1 := (some (.ref v))) (h1 := (M, R, L)) hd ?_ (Nat.le_of_ble_eq_true hm) (hE v rfl _ _ ⟨rfl, rfl⟩) ?_
    · simp only [zstep, zcallV, if_true, hr]; rw [if_neg (by omega), if_neg (by omega), if_pos ⟨h0.1, h0.2.1⟩, h0.2.2.1]; simp only [List.drop_succ_cons, List.drop_zero]; rw [zG_inh ho h0.2.2.2]; simp only; rw [if_pos ⟨hc, hz⟩]; rfl
    · exact h v b hb r h' he
theorem zG_cU0q {α : Type} {sc : ZS} {d y pc p ix w k : Nat} {ls l0 : List Slot} {st : List Value} {M : ZI} {R : ZF} {L : ZY} {o1 : Option (Nat × ZH)} {f : Nat × ZH → Option α} {E : α → Option Value → ZH → Prop} {m : Nat} {a k0 : Nat} {pv : Bool} (h0 : k0 < 152 ∧ zkind k0 = 1 ∧ znar k0 = 0 ∧ zvir k0 = some (k, pv)) (ho : gob L a 11 = true) (hd : zdec y pc = some (.invokevirtual ix, 3)) (hw : zown y = w) (hr : zres w ix = some k0) (hk : k < 152 ∧ zkind k = 1 ∧ znar k = 0 ∧ zml k = m) (hm : Nat.ble 1 m = true) (hE : zG sc d k 0 l0 [] (M, R, L) o1 gEq) (hc : zcats (.ref a :: st) = true) (hz : zroom st = true) (hl : zent m [.ref a] = l0) (hp : pc + 3 = p) (h : ∀ v M R L, zG sc (d + 1) y p ls (.ref v :: st) (M, R, L) (f (v, M, R, L)) E) : zG sc (d + 1) y pc ls (.ref a :: st) (M, R, L) (o1.bind f) E := by
  obtain rfl := hk.2.2.2
  subst hp; subst hw; subst hl
  intro b hb r h' he
  cases o1 with
  | none => cases hb
  | some v =>
    refine zG_callE (k := k) (as := [.ref a]) (rest := st) (r1 := (some (.ref v.1))) (h1 := v.2) hd ?_ (Nat.le_of_ble_eq_true hm) (hE v rfl _ _ ⟨rfl, rfl⟩) ?_
    · simp only [zstep, zcallV, if_true, hr]; rw [if_neg (by omega), if_neg (by omega), if_pos ⟨h0.1, h0.2.1⟩, h0.2.2.1]; simp only [List.drop_succ_cons, List.drop_zero]; rw [zG_inh ho h0.2.2.2]; simp only; rw [if_pos ⟨hc, hz⟩]; rfl
    · exact h v.1 v.2.1 v.2.2.1 v.2.2.2 b hb r h' he
theorem zG_cU1i {α : Type} {sc : ZS} {d y pc p ix w k : Nat} {ls l0 : List Slot} {st : List Value} {M : ZI} {R : ZF} {L : ZY} {o1 : Option Int32} {f : Int32 → Option α} {E : α → Option Value → ZH → Prop} {m : Nat} {v1 : Value} {a k0 : Nat} {pv : Bool} (h0 : k0 < 152 ∧ zkind k0 = 1 ∧ znar k0 = 1 ∧ zvir k0 = some (k, pv)) (ho : gob L a 11 = true) (hd : zdec y pc = some (.invokevirtual ix, 3)) (hw : zown y = w) (hr : zres w ix = some k0) (hk : k < 152 ∧ zkind k = 1 ∧ znar k = 1 ∧ zml k = m) (hm : Nat.ble 2 m = true) (hE : zG sc d k 0 l0 [] (M, R, L) o1 (gEi (M, R, L))) (hc : zcats (v1 :: .ref a :: st) = true) (hz : zroom st = true) (hl : zent m [.ref a, v1] = l0) (hp : pc + 3 = p) (h : ∀ v, zG sc (d + 1) y p ls (.int v :: st) (M, R, L) (f v) E) : zG sc (d + 1) y pc ls (v1 :: .ref a :: st) (M, R, L) (o1.bind f) E := by
  obtain rfl := hk.2.2.2
  subst hp; subst hw; subst hl
  intro b hb r h' he
  cases o1 with
  | none => cases hb
  | some v =>
    refine zG_callE (k := k) (as := [.ref a, v1]) (rest := st) (r1 := (some (.int v))) (h1 := (M, R, L)) hd ?_ (Nat.le_of_ble_eq_true hm) (hE v rfl _ _ ⟨rfl, rfl⟩) ?_
    · simp only [zstep, zcallV, if_true, hr]; rw [if_neg (by omega), if_neg (by omega), if_pos ⟨h0.1, h0.2.1⟩, h0.2.2.1]; simp only [List.drop_succ_cons, List.drop_zero]; rw [zG_inh ho h0.2.2.2]; simp only; rw [if_pos ⟨hc, hz⟩]; rfl
    · exact h v b hb r h' he
theorem zG_cU1m {α : Type} {sc : ZS} {d y pc p ix w k : Nat} {ls l0 : List Slot} {st : List Value} {M : ZI} {R : ZF} {L : ZY} {o1 : Option (Int32 × ZH)} {f : Int32 × ZH → Option α} {E : α → Option Value → ZH → Prop} {m : Nat} {v1 : Value} {a k0 : Nat} {pv : Bool} (h0 : k0 < 152 ∧ zkind k0 = 1 ∧ znar k0 = 1 ∧ zvir k0 = some (k, pv)) (ho : gob L a 11 = true) (hd : zdec y pc = some (.invokevirtual ix, 3)) (hw : zown y = w) (hr : zres w ix = some k0) (hk : k < 152 ∧ zkind k = 1 ∧ znar k = 1 ∧ zml k = m) (hm : Nat.ble 2 m = true) (hE : zG sc d k 0 l0 [] (M, R, L) o1 gEm) (hc : zcats (v1 :: .ref a :: st) = true) (hz : zroom st = true) (hl : zent m [.ref a, v1] = l0) (hp : pc + 3 = p) (h : ∀ v M R L, zG sc (d + 1) y p ls (.int v :: st) (M, R, L) (f (v, M, R, L)) E) : zG sc (d + 1) y pc ls (v1 :: .ref a :: st) (M, R, L) (o1.bind f) E := by
  obtain rfl := hk.2.2.2
  subst hp; subst hw; subst hl
  intro b hb r h' he
  cases o1 with
  | none => cases hb
  | some v =>
    refine zG_callE (k := k) (as := [.ref a, v1]) (rest := st) (r1 := (some (.int v.1))) (h1 := v.2) hd ?_ (Nat.le_of_ble_eq_true hm) (hE v rfl _ _ ⟨rfl, rfl⟩) ?_
    · simp only [zstep, zcallV, if_true, hr]; rw [if_neg (by omega), if_neg (by omega), if_pos ⟨h0.1, h0.2.1⟩, h0.2.2.1]; simp only [List.drop_succ_cons, List.drop_zero]; rw [zG_inh ho h0.2.2.2]; simp only; rw [if_pos ⟨hc, hz⟩]; rfl
    · exact h v.1 v.2.1 v.2.2.1 v.2.2.2 b hb r h' he
theorem zG_cU1v {α : Type} {sc : ZS} {d y pc p ix w k : Nat} {ls l0 : List Slot} {st : List Value} {M : ZI} {R : ZF} {L : ZY} {o1 : Option ZH} {f : ZH → Option α} {E : α → Option Value → ZH → Prop} {m : Nat} {v1 : Value} {a k0 : Nat} {pv : Bool} (h0 : k0 < 152 ∧ zkind k0 = 1 ∧ znar k0 = 1 ∧ zvir k0 = some (k, pv)) (ho : gob L a 11 = true) (hd : zdec y pc = some (.invokevirtual ix, 3)) (hw : zown y = w) (hr : zres w ix = some k0) (hk : k < 152 ∧ zkind k = 1 ∧ znar k = 1 ∧ zml k = m) (hm : Nat.ble 2 m = true) (hE : zG sc d k 0 l0 [] (M, R, L) o1 gEv) (hc : zcats (v1 :: .ref a :: st) = true) (hz : zroom st = true) (hl : zent m [.ref a, v1] = l0) (hp : pc + 3 = p) (h : ∀ M R L, zG sc (d + 1) y p ls st (M, R, L) (f (M, R, L)) E) : zG sc (d + 1) y pc ls (v1 :: .ref a :: st) (M, R, L) (o1.bind f) E := by
  obtain rfl := hk.2.2.2
  subst hp; subst hw; subst hl
  intro b hb r h' he
  cases o1 with
  | none => cases hb
  | some v =>
    refine zG_callE (k := k) (as := [.ref a, v1]) (rest := st) (r1 := none) (h1 := v) hd ?_ (Nat.le_of_ble_eq_true hm) (hE v rfl _ _ ⟨rfl, rfl⟩) ?_
    · simp only [zstep, zcallV, if_true, hr]; rw [if_neg (by omega), if_neg (by omega), if_pos ⟨h0.1, h0.2.1⟩, h0.2.2.1]; simp only [List.drop_succ_cons, List.drop_zero]; rw [zG_inh ho h0.2.2.2]; simp only; rw [if_pos ⟨hc, hz⟩]; rfl
    · exact h v.1 v.2.1 v.2.2 b hb r h' he
theorem zG_cU1n {α : Type} {sc : ZS} {d y pc p ix w k : Nat} {ls l0 : List Slot} {st : List Value} {M : ZI} {R : ZF} {L : ZY} {o1 : Option Nat} {f : Nat → Option α} {E : α → Option Value → ZH → Prop} {m : Nat} {v1 : Value} {a k0 : Nat} {pv : Bool} (h0 : k0 < 152 ∧ zkind k0 = 1 ∧ znar k0 = 1 ∧ zvir k0 = some (k, pv)) (ho : gob L a 11 = true) (hd : zdec y pc = some (.invokevirtual ix, 3)) (hw : zown y = w) (hr : zres w ix = some k0) (hk : k < 152 ∧ zkind k = 1 ∧ znar k = 1 ∧ zml k = m) (hm : Nat.ble 2 m = true) (hE : zG sc d k 0 l0 [] (M, R, L) o1 (gEn (M, R, L))) (hc : zcats (v1 :: .ref a :: st) = true) (hz : zroom st = true) (hl : zent m [.ref a, v1] = l0) (hp : pc + 3 = p) (h : ∀ v, zG sc (d + 1) y p ls (.ref v :: st) (M, R, L) (f v) E) : zG sc (d + 1) y pc ls (v1 :: .ref a :: st) (M, R, L) (o1.bind f) E := by
  obtain rfl := hk.2.2.2
  subst hp; subst hw; subst hl
  intro b hb r h' he
  cases o1 with
  | none => cases hb
  | some v =>
    refine zG_callE (k := k) (as := [.ref a, v1]) (rest := st) (r1 := (some (.ref v))) (h1 := (M, R, L)) hd ?_ (Nat.le_of_ble_eq_true hm) (hE v rfl _ _ ⟨rfl, rfl⟩) ?_
    · simp only [zstep, zcallV, if_true, hr]; rw [if_neg (by omega), if_neg (by omega), if_pos ⟨h0.1, h0.2.1⟩, h0.2.2.1]; simp only [List.drop_succ_cons, List.drop_zero]; rw [zG_inh ho h0.2.2.2]; simp only; rw [if_pos ⟨hc, hz⟩]; rfl
    · exact h v b hb r h' he
theorem zG_cU1q {α : Type} {sc : ZS} {d y pc p ix w k : Nat} {ls l0 : List Slot} {st : List Value} {M : ZI} {R : ZF} {L : ZY} {o1 : Option (Nat × ZH)} {f : Nat × ZH → Option α} {E : α → Option Value → ZH → Prop} {m : Nat} {v1 : Value} {a k0 : Nat} {pv : Bool} (h0 : k0 < 152 ∧ zkind k0 = 1 ∧ znar k0 = 1 ∧ zvir k0 = some (k, pv)) (ho : gob L a 11 = true) (hd : zdec y pc = some (.invokevirtual ix, 3)) (hw : zown y = w) (hr : zres w ix = some k0) (hk : k < 152 ∧ zkind k = 1 ∧ znar k = 1 ∧ zml k = m) (hm : Nat.ble 2 m = true) (hE : zG sc d k 0 l0 [] (M, R, L) o1 gEq) (hc : zcats (v1 :: .ref a :: st) = true) (hz : zroom st = true) (hl : zent m [.ref a, v1] = l0) (hp : pc + 3 = p) (h : ∀ v M R L, zG sc (d + 1) y p ls (.ref v :: st) (M, R, L) (f (v, M, R, L)) E) : zG sc (d + 1) y pc ls (v1 :: .ref a :: st) (M, R, L) (o1.bind f) E := by
  obtain rfl := hk.2.2.2
  subst hp; subst hw; subst hl
  intro b hb r h' he
  cases o1 with
  | none => cases hb
  | some v =>
    refine zG_callE (k := k) (as := [.ref a, v1]) (rest := st) (r1 := (some (.ref v.1))) (h1 := v.2) hd ?_ (Nat.le_of_ble_eq_true hm) (hE v rfl _ _ ⟨rfl, rfl⟩) ?_
    · simp only [zstep, zcallV, if_true, hr]; rw [if_neg (by omega), if_neg (by omega), if_pos ⟨h0.1, h0.2.1⟩, h0.2.2.1]; simp only [List.drop_succ_cons, List.drop_zero]; rw [zG_inh ho h0.2.2.2]; simp only; rw [if_pos ⟨hc, hz⟩]; rfl
    · exact h v.1 v.2.1 v.2.2.1 v.2.2.2 b hb r h' he
theorem zG_cU2i {α : Type} {sc : ZS} {d y pc p ix w k : Nat} {ls l0 : List Slot} {st : List Value} {M : ZI} {R : ZF} {L : ZY} {o1 : Option Int32} {f : Int32 → Option α} {E : α → Option Value → ZH → Prop} {m : Nat} {v1 v2 : Value} {a k0 : Nat} {pv : Bool} (h0 : k0 < 152 ∧ zkind k0 = 1 ∧ znar k0 = 2 ∧ zvir k0 = some (k, pv)) (ho : gob L a 11 = true) (hd : zdec y pc = some (.invokevirtual ix, 3)) (hw : zown y = w) (hr : zres w ix = some k0) (hk : k < 152 ∧ zkind k = 1 ∧ znar k = 2 ∧ zml k = m) (hm : Nat.ble 3 m = true) (hE : zG sc d k 0 l0 [] (M, R, L) o1 (gEi (M, R, L))) (hc : zcats (v2 :: v1 :: .ref a :: st) = true) (hz : zroom st = true) (hl : zent m [.ref a, v1, v2] = l0) (hp : pc + 3 = p) (h : ∀ v, zG sc (d + 1) y p ls (.int v :: st) (M, R, L) (f v) E) : zG sc (d + 1) y pc ls (v2 :: v1 :: .ref a :: st) (M, R, L) (o1.bind f) E := by
  obtain rfl := hk.2.2.2
  subst hp; subst hw; subst hl
  intro b hb r h' he
  cases o1 with
  | none => cases hb
  | some v =>
    refine zG_callE (k := k) (as := [.ref a, v1, v2]) (rest := st) (r1 := (some (.int v))) (h1 := (M, R, L)) hd ?_ (Nat.le_of_ble_eq_true hm) (hE v rfl _ _ ⟨rfl, rfl⟩) ?_
    · simp only [zstep, zcallV, if_true, hr]; rw [if_neg (by omega), if_neg (by omega), if_pos ⟨h0.1, h0.2.1⟩, h0.2.2.1]; simp only [List.drop_succ_cons, List.drop_zero]; rw [zG_inh ho h0.2.2.2]; simp only; rw [if_pos ⟨hc, hz⟩]; rfl
    · exact h v b hb r h' he
theorem zG_cU2m {α : Type} {sc : ZS} {d y pc p ix w k : Nat} {ls l0 : List Slot} {st : List Value} {M : ZI} {R : ZF} {L : ZY} {o1 : Option (Int32 × ZH)} {f : Int32 × ZH → Option α} {E : α → Option Value → ZH → Prop} {m : Nat} {v1 v2 : Value} {a k0 : Nat} {pv : Bool} (h0 : k0 < 152 ∧ zkind k0 = 1 ∧ znar k0 = 2 ∧ zvir k0 = some (k, pv)) (ho : gob L a 11 = true) (hd : zdec y pc = some (.invokevirtual ix, 3)) (hw : zown y = w) (hr : zres w ix = some k0) (hk : k < 152 ∧ zkind k = 1 ∧ znar k = 2 ∧ zml k = m) (hm : Nat.ble 3 m = true) (hE : zG sc d k 0 l0 [] (M, R, L) o1 gEm) (hc : zcats (v2 :: v1 :: .ref a :: st) = true) (hz : zroom st = true) (hl : zent m [.ref a, v1, v2] = l0) (hp : pc + 3 = p) (h : ∀ v M R L, zG sc (d + 1) y p ls (.int v :: st) (M, R, L) (f (v, M, R, L)) E) : zG sc (d + 1) y pc ls (v2 :: v1 :: .ref a :: st) (M, R, L) (o1.bind f) E := by
  obtain rfl := hk.2.2.2
  subst hp; subst hw; subst hl
  intro b hb r h' he
  cases o1 with
  | none => cases hb
  | some v =>
    refine zG_callE (k := k) (as := [.ref a, v1, v2]) (rest := st) (r1 := (some (.int v.1))) (h1 := v.2) hd ?_ (Nat.le_of_ble_eq_true hm) (hE v rfl _ _ ⟨rfl, rfl⟩) ?_
    · simp only [zstep, zcallV, if_true, hr]; rw [if_neg (by omega), if_neg (by omega), if_pos ⟨h0.1, h0.2.1⟩, h0.2.2.1]; simp only [List.drop_succ_cons, List.drop_zero]; rw [zG_inh ho h0.2.2.2]; simp only; rw [if_pos ⟨hc, hz⟩]; rfl
    · exact h v.1 v.2.1 v.2.2.1 v.2.2.2 b hb r h' he
theorem zG_cU2v {α : Type} {sc : ZS} {d y pc p ix w k : Nat} {ls l0 : List Slot} {st : List Value} {M : ZI} {R : ZF} {L : ZY} {o1 : Option ZH} {f : ZH → Option α} {E : α → Option Value → ZH → Prop} {m : Nat} {v1 v2 : Value} {a k0 : Nat} {pv : Bool} (h0 : k0 < 152 ∧ zkind k0 = 1 ∧ znar k0 = 2 ∧ zvir k0 = some (k, pv)) (ho : gob L a 11 = true) (hd : zdec y pc = some (.invokevirtual ix, 3)) (hw : zown y = w) (hr : zres w ix = some k0) (hk : k < 152 ∧ zkind k = 1 ∧ znar k = 2 ∧ zml k = m) (hm : Nat.ble 3 m = true) (hE : zG sc d k 0 l0 [] (M, R, L) o1 gEv) (hc : zcats (v2 :: v1 :: .ref a :: st) = true) (hz : zroom st = true) (hl : zent m [.ref a, v1, v2] = l0) (hp : pc + 3 = p) (h : ∀ M R L, zG sc (d + 1) y p ls st (M, R, L) (f (M, R, L)) E) : zG sc (d + 1) y pc ls (v2 :: v1 :: .ref a :: st) (M, R, L) (o1.bind f) E := by
  obtain rfl := hk.2.2.2
  subst hp; subst hw; subst hl
  intro b hb r h' he
  cases o1 with
  | none => cases hb
  | some v =>
    refine zG_callE (k := k) (as := [.ref a, v1, v2]) (rest := st) (r1 := none) (h1 := v) hd ?_ (Nat.le_of_ble_eq_true hm) (hE v rfl _ _ ⟨rfl, rfl⟩) ?_
    · simp only [zstep, zcallV, if_true, hr]; rw [if_neg (by omega), if_neg (by omega), if_pos ⟨h0.1, h0.2.1⟩, h0.2.2.1]; simp only [List.drop_succ_cons, List.drop_zero]; rw [zG_inh ho h0.2.2.2]; simp only; rw [if_pos ⟨hc, hz⟩]; rfl
    · exact h v.1 v.2.1 v.2.2 b hb r h' he
theorem zG_cU2n {α : Type} {sc : ZS} {d y pc p ix w k : Nat} {ls l0 : List Slot} {st : List Value} {M : ZI} {R : ZF} {L : ZY} {o1 : Option Nat} {f : Nat → Option α} {E : α → Option Value → ZH → Prop} {m : Nat} {v1 v2 : Value} {a k0 : Nat} {pv : Bool} (h0 : k0 < 152 ∧ zkind k0 = 1 ∧ znar k0 = 2 ∧ zvir k0 = some (k, pv)) (ho : gob L a 11 = true) (hd : zdec y pc = some (.invokevirtual ix, 3)) (hw : zown y = w) (hr : zres w ix = some k0) (hk : k < 152 ∧ zkind k = 1 ∧ znar k = 2 ∧ zml k = m) (hm : Nat.ble 3 m = true) (hE : zG sc d k 0 l0 [] (M, R, L) o1 (gEn (M, R, L))) (hc : zcats (v2 :: v1 :: .ref a :: st) = true) (hz : zroom st = true) (hl : zent m [.ref a, v1, v2] = l0) (hp : pc + 3 = p) (h : ∀ v, zG sc (d + 1) y p ls (.ref v :: st) (M, R, L) (f v) E) : zG sc (d + 1) y pc ls (v2 :: v1 :: .ref a :: st) (M, R, L) (o1.bind f) E := by
  obtain rfl := hk.2.2.2
  subst hp; subst hw; subst hl
  intro b hb r h' he
  cases o1 with
  | none => cases hb
  | some v =>
    refine zG_callE (k := k) (as := [.ref a, v1, v2]) (rest := st) (r1 := (some (.ref v))) (h1 := (M, R, L)) hd ?_ (Nat.le_of_ble_eq_true hm) (hE v rfl _ _ ⟨rfl, rfl⟩) ?_
    · simp only [zstep, zcallV, if_true, hr]; rw [if_neg (by omega), if_neg (by omega), if_pos ⟨h0.1, h0.2.1⟩, h0.2.2.1]; simp only [List.drop_succ_cons, List.drop_zero]; rw [zG_inh ho h0.2.2.2]; simp only; rw [if_pos ⟨hc, hz⟩]; rfl
    · exact h v b hb r h' he
theorem zG_cU2q {α : Type} {sc : ZS} {d y pc p ix w k : Nat} {ls l0 : List Slot} {st : List Value} {M : ZI} {R : ZF} {L : ZY} {o1 : Option (Nat × ZH)} {f : Nat × ZH → Option α} {E : α → Option Value → ZH → Prop} {m : Nat} {v1 v2 : Value} {a k0 : Nat} {pv : Bool} (h0 : k0 < 152 ∧ zkind k0 = 1 ∧ znar k0 = 2 ∧ zvir k0 = some (k, pv)) (ho : gob L a 11 = true) (hd : zdec y pc = some (.invokevirtual ix, 3)) (hw : zown y = w) (hr : zres w ix = some k0) (hk : k < 152 ∧ zkind k = 1 ∧ znar k = 2 ∧ zml k = m) (hm : Nat.ble 3 m = true) (hE : zG sc d k 0 l0 [] (M, R, L) o1 gEq) (hc : zcats (v2 :: v1 :: .ref a :: st) = true) (hz : zroom st = true) (hl : zent m [.ref a, v1, v2] = l0) (hp : pc + 3 = p) (h : ∀ v M R L, zG sc (d + 1) y p ls (.ref v :: st) (M, R, L) (f (v, M, R, L)) E) : zG sc (d + 1) y pc ls (v2 :: v1 :: .ref a :: st) (M, R, L) (o1.bind f) E := by
  obtain rfl := hk.2.2.2
  subst hp; subst hw; subst hl
  intro b hb r h' he
  cases o1 with
  | none => cases hb
  | some v =>
    refine zG_callE (k := k) (as := [.ref a, v1, v2]) (rest := st) (r1 := (some (.ref v.1))) (h1 := v.2) hd ?_ (Nat.le_of_ble_eq_true hm) (hE v rfl _ _ ⟨rfl, rfl⟩) ?_
    · simp only [zstep, zcallV, if_true, hr]; rw [if_neg (by omega), if_neg (by omega), if_pos ⟨h0.1, h0.2.1⟩, h0.2.2.1]; simp only [List.drop_succ_cons, List.drop_zero]; rw [zG_inh ho h0.2.2.2]; simp only; rw [if_pos ⟨hc, hz⟩]; rfl
    · exact h v.1 v.2.1 v.2.2.1 v.2.2.2 b hb r h' he
theorem zG_cP0i {α : Type} {sc : ZS} {d y pc p ix w k : Nat} {ls l0 : List Slot} {st : List Value} {M : ZI} {R : ZF} {L : ZY} {o1 : Option Int32} {f : Int32 → Option α} {E : α → Option Value → ZH → Prop} {m : Nat} {a : Nat} (hsu : zSUL.contains k = true) (hw2 : w = zSBC) (ho : gob L a 11 = true) (hd : zdec y pc = some (.invokespecial ix, 3)) (hw : zown y = w) (hr : zres w ix = some k) (hk : k < 152 ∧ zkind k = 1 ∧ znar k = 0 ∧ zml k = m) (hm : Nat.ble 1 m = true) (hE : zG sc d k 0 l0 [] (M, R, L) o1 (gEi (M, R, L))) (hc : zcats (.ref a :: st) = true) (hz : zroom st = true) (hl : zent m [.ref a] = l0) (hp : pc + 3 = p) (h : ∀ v, zG sc (d + 1) y p ls (.int v :: st) (M, R, L) (f v) E) : zG sc (d + 1) y pc ls (.ref a :: st) (M, R, L) (o1.bind f) E := by
  obtain rfl := hk.2.2.2
  subst hp; subst hw; subst hl
  intro b hb r h' he
  cases o1 with
  | none => cases hb
  | some v =>
    refine zG_callE (k := k) (as := [.ref a]) (rest := st) (r1 := (some (.int v))) (h1 := (M, R, L)) hd ?_ (Nat.le_of_ble_eq_true hm) (hE v rfl _ _ ⟨rfl, rfl⟩) ?_
    · obtain ⟨o1, n1, o2⟩ := gob_sp ho; simp only [zstep, zcallI, if_true, hr]; rw [if_neg (by omega), if_neg (by rw [hk.2.1]; omega), if_pos ⟨hsu, hw2⟩, hk.2.2.1]; simp only [List.drop_succ_cons, List.drop_zero, o2]; rw [if_pos ⟨rfl, o1, hc, hz⟩]; rfl
    · exact h v b hb r h' he
theorem zG_cP0m {α : Type} {sc : ZS} {d y pc p ix w k : Nat} {ls l0 : List Slot} {st : List Value} {M : ZI} {R : ZF} {L : ZY} {o1 : Option (Int32 × ZH)} {f : Int32 × ZH → Option α} {E : α → Option Value → ZH → Prop} {m : Nat} {a : Nat} (hsu : zSUL.contains k = true) (hw2 : w = zSBC) (ho : gob L a 11 = true) (hd : zdec y pc = some (.invokespecial ix, 3)) (hw : zown y = w) (hr : zres w ix = some k) (hk : k < 152 ∧ zkind k = 1 ∧ znar k = 0 ∧ zml k = m) (hm : Nat.ble 1 m = true) (hE : zG sc d k 0 l0 [] (M, R, L) o1 gEm) (hc : zcats (.ref a :: st) = true) (hz : zroom st = true) (hl : zent m [.ref a] = l0) (hp : pc + 3 = p) (h : ∀ v M R L, zG sc (d + 1) y p ls (.int v :: st) (M, R, L) (f (v, M, R, L)) E) : zG sc (d + 1) y pc ls (.ref a :: st) (M, R, L) (o1.bind f) E := by
  obtain rfl := hk.2.2.2
  subst hp; subst hw; subst hl
  intro b hb r h' he
  cases o1 with
  | none => cases hb
  | some v =>
    refine zG_callE (k := k) (as := [.ref a]) (rest := st) (r1 := (some (.int v.1))) (h1 := v.2) hd ?_ (Nat.le_of_ble_eq_true hm) (hE v rfl _ _ ⟨rfl, rfl⟩) ?_
    · obtain ⟨o1, n1, o2⟩ := gob_sp ho; simp only [zstep, zcallI, if_true, hr]; rw [if_neg (by omega), if_neg (by rw [hk.2.1]; omega), if_pos ⟨hsu, hw2⟩, hk.2.2.1]; simp only [List.drop_succ_cons, List.drop_zero, o2]; rw [if_pos ⟨rfl, o1, hc, hz⟩]; rfl
    · exact h v.1 v.2.1 v.2.2.1 v.2.2.2 b hb r h' he
theorem zG_cP0v {α : Type} {sc : ZS} {d y pc p ix w k : Nat} {ls l0 : List Slot} {st : List Value} {M : ZI} {R : ZF} {L : ZY} {o1 : Option ZH} {f : ZH → Option α} {E : α → Option Value → ZH → Prop} {m : Nat} {a : Nat} (hsu : zSUL.contains k = true) (hw2 : w = zSBC) (ho : gob L a 11 = true) (hd : zdec y pc = some (.invokespecial ix, 3)) (hw : zown y = w) (hr : zres w ix = some k) (hk : k < 152 ∧ zkind k = 1 ∧ znar k = 0 ∧ zml k = m) (hm : Nat.ble 1 m = true) (hE : zG sc d k 0 l0 [] (M, R, L) o1 gEv) (hc : zcats (.ref a :: st) = true) (hz : zroom st = true) (hl : zent m [.ref a] = l0) (hp : pc + 3 = p) (h : ∀ M R L, zG sc (d + 1) y p ls st (M, R, L) (f (M, R, L)) E) : zG sc (d + 1) y pc ls (.ref a :: st) (M, R, L) (o1.bind f) E := by
  obtain rfl := hk.2.2.2
  subst hp; subst hw; subst hl
  intro b hb r h' he
  cases o1 with
  | none => cases hb
  | some v =>
    refine zG_callE (k := k) (as := [.ref a]) (rest := st) (r1 := none) (h1 := v) hd ?_ (Nat.le_of_ble_eq_true hm) (hE v rfl _ _ ⟨rfl, rfl⟩) ?_
    · obtain ⟨o1, n1, o2⟩ := gob_sp ho; simp only [zstep, zcallI, if_true, hr]; rw [if_neg (by omega), if_neg (by rw [hk.2.1]; omega), if_pos ⟨hsu, hw2⟩, hk.2.2.1]; simp only [List.drop_succ_cons, List.drop_zero, o2]; rw [if_pos ⟨rfl, o1, hc, hz⟩]; rfl
    · exact h v.1 v.2.1 v.2.2 b hb r h' he
theorem zG_cP0n {α : Type} {sc : ZS} {d y pc p ix w k : Nat} {ls l0 : List Slot} {st : List Value} {M : ZI} {R : ZF} {L : ZY} {o1 : Option Nat} {f : Nat → Option α} {E : α → Option Value → ZH → Prop} {m : Nat} {a : Nat} (hsu : zSUL.contains k = true) (hw2 : w = zSBC) (ho : gob L a 11 = true) (hd : zdec y pc = some (.invokespecial ix, 3)) (hw : zown y = w) (hr : zres w ix = some k) (hk : k < 152 ∧ zkind k = 1 ∧ znar k = 0 ∧ zml k = m) (hm : Nat.ble 1 m = true) (hE : zG sc d k 0 l0 [] (M, R, L) o1 (gEn (M, R, L))) (hc : zcats (.ref a :: st) = true) (hz : zroom st = true) (hl : zent m [.ref a] = l0) (hp : pc + 3 = p) (h : ∀ v, zG sc (d + 1) y p ls (.ref v :: st) (M, R, L) (f v) E) : zG sc (d + 1) y pc ls (.ref a :: st) (M, R, L) (o1.bind f) E := by
  obtain rfl := hk.2.2.2
  subst hp; subst hw; subst hl
  intro b hb r h' he
  cases o1 with
  | none => cases hb
  | some v =>
    refine zG_callE (k := k) (as := [.ref a]) (rest := st) (r1 := (some (.ref v))) (h1 := (M, R, L)) hd ?_ (Nat.le_of_ble_eq_true hm) (hE v rfl _ _ ⟨rfl, rfl⟩) ?_
    · obtain ⟨o1, n1, o2⟩ := gob_sp ho; simp only [zstep, zcallI, if_true, hr]; rw [if_neg (by omega), if_neg (by rw [hk.2.1]; omega), if_pos ⟨hsu, hw2⟩, hk.2.2.1]; simp only [List.drop_succ_cons, List.drop_zero, o2]; rw [if_pos ⟨rfl, o1, hc, hz⟩]; rfl
    · exact h v b hb r h' he
theorem zG_cP0q {α : Type} {sc : ZS} {d y pc p ix w k : Nat} {ls l0 : List Slot} {st : List Value} {M : ZI} {R : ZF} {L : ZY} {o1 : Option (Nat × ZH)} {f : Nat × ZH → Option α} {E : α → Option Value → ZH → Prop} {m : Nat} {a : Nat} (hsu : zSUL.contains k = true) (hw2 : w = zSBC) (ho : gob L a 11 = true) (hd : zdec y pc = some (.invokespecial ix, 3)) (hw : zown y = w) (hr : zres w ix = some k) (hk : k < 152 ∧ zkind k = 1 ∧ znar k = 0 ∧ zml k = m) (hm : Nat.ble 1 m = true) (hE : zG sc d k 0 l0 [] (M, R, L) o1 gEq) (hc : zcats (.ref a :: st) = true) (hz : zroom st = true) (hl : zent m [.ref a] = l0) (hp : pc + 3 = p) (h : ∀ v M R L, zG sc (d + 1) y p ls (.ref v :: st) (M, R, L) (f (v, M, R, L)) E) : zG sc (d + 1) y pc ls (.ref a :: st) (M, R, L) (o1.bind f) E := by
  obtain rfl := hk.2.2.2
  subst hp; subst hw; subst hl
  intro b hb r h' he
  cases o1 with
  | none => cases hb
  | some v =>
    refine zG_callE (k := k) (as := [.ref a]) (rest := st) (r1 := (some (.ref v.1))) (h1 := v.2) hd ?_ (Nat.le_of_ble_eq_true hm) (hE v rfl _ _ ⟨rfl, rfl⟩) ?_
    · obtain ⟨o1, n1, o2⟩ := gob_sp ho; simp only [zstep, zcallI, if_true, hr]; rw [if_neg (by omega), if_neg (by rw [hk.2.1]; omega), if_pos ⟨hsu, hw2⟩, hk.2.2.1]; simp only [List.drop_succ_cons, List.drop_zero, o2]; rw [if_pos ⟨rfl, o1, hc, hz⟩]; rfl
    · exact h v.1 v.2.1 v.2.2.1 v.2.2.2 b hb r h' he
theorem zG_cP1i {α : Type} {sc : ZS} {d y pc p ix w k : Nat} {ls l0 : List Slot} {st : List Value} {M : ZI} {R : ZF} {L : ZY} {o1 : Option Int32} {f : Int32 → Option α} {E : α → Option Value → ZH → Prop} {m : Nat} {v1 : Value} {a : Nat} (hsu : zSUL.contains k = true) (hw2 : w = zSBC) (ho : gob L a 11 = true) (hd : zdec y pc = some (.invokespecial ix, 3)) (hw : zown y = w) (hr : zres w ix = some k) (hk : k < 152 ∧ zkind k = 1 ∧ znar k = 1 ∧ zml k = m) (hm : Nat.ble 2 m = true) (hE : zG sc d k 0 l0 [] (M, R, L) o1 (gEi (M, R, L))) (hc : zcats (v1 :: .ref a :: st) = true) (hz : zroom st = true) (hl : zent m [.ref a, v1] = l0) (hp : pc + 3 = p) (h : ∀ v, zG sc (d + 1) y p ls (.int v :: st) (M, R, L) (f v) E) : zG sc (d + 1) y pc ls (v1 :: .ref a :: st) (M, R, L) (o1.bind f) E := by
  obtain rfl := hk.2.2.2
  subst hp; subst hw; subst hl
  intro b hb r h' he
  cases o1 with
  | none => cases hb
  | some v =>
    refine zG_callE (k := k) (as := [.ref a, v1]) (rest := st) (r1 := (some (.int v))) (h1 := (M, R, L)) hd ?_ (Nat.le_of_ble_eq_true hm) (hE v rfl _ _ ⟨rfl, rfl⟩) ?_
    · obtain ⟨o1, n1, o2⟩ := gob_sp ho; simp only [zstep, zcallI, if_true, hr]; rw [if_neg (by omega), if_neg (by rw [hk.2.1]; omega), if_pos ⟨hsu, hw2⟩, hk.2.2.1]; simp only [List.drop_succ_cons, List.drop_zero, o2]; rw [if_pos ⟨rfl, o1, hc, hz⟩]; rfl
    · exact h v b hb r h' he
theorem zG_cP1m {α : Type} {sc : ZS} {d y pc p ix w k : Nat} {ls l0 : List Slot} {st : List Value} {M : ZI} {R : ZF} {L : ZY} {o1 : Option (Int32 × ZH)} {f : Int32 × ZH → Option α} {E : α → Option Value → ZH → Prop} {m : Nat} {v1 : Value} {a : Nat} (hsu : zSUL.contains k = true) (hw2 : w = zSBC) (ho : gob L a 11 = true) (hd : zdec y pc = some (.invokespecial ix, 3)) (hw : zown y = w) (hr : zres w ix = some k) (hk : k < 152 ∧ zkind k = 1 ∧ znar k = 1 ∧ zml k = m) (hm : Nat.ble 2 m = true) (hE : zG sc d k 0 l0 [] (M, R, L) o1 gEm) (hc : zcats (v1 :: .ref a :: st) = true) (hz : zroom st = true) (hl : zent m [.ref a, v1] = l0) (hp : pc + 3 = p) (h : ∀ v M R L, zG sc (d + 1) y p ls (.int v :: st) (M, R, L) (f (v, M, R, L)) E) : zG sc (d + 1) y pc ls (v1 :: .ref a :: st) (M, R, L) (o1.bind f) E := by
  obtain rfl := hk.2.2.2
  subst hp; subst hw; subst hl
  intro b hb r h' he
  cases o1 with
  | none => cases hb
  | some v =>
    refine zG_callE (k := k) (as := [.ref a, v1]) (rest := st) (r1 := (some (.int v.1))) (h1 := v.2) hd ?_ (Nat.le_of_ble_eq_true hm) (hE v rfl _ _ ⟨rfl, rfl⟩) ?_
    · obtain ⟨o1, n1, o2⟩ := gob_sp ho; simp only [zstep, zcallI, if_true, hr]; rw [if_neg (by omega), if_neg (by rw [hk.2.1]; omega), if_pos ⟨hsu, hw2⟩, hk.2.2.1]; simp only [List.drop_succ_cons, List.drop_zero, o2]; rw [if_pos ⟨rfl, o1, hc, hz⟩]; rfl
    · exact h v.1 v.2.1 v.2.2.1 v.2.2.2 b hb r h' he
theorem zG_cP1v {α : Type} {sc : ZS} {d y pc p ix w k : Nat} {ls l0 : List Slot} {st : List Value} {M : ZI} {R : ZF} {L : ZY} {o1 : Option ZH} {f : ZH → Option α} {E : α → Option Value → ZH → Prop} {m : Nat} {v1 : Value} {a : Nat} (hsu : zSUL.contains k = true) (hw2 : w = zSBC) (ho : gob L a 11 = true) (hd : zdec y pc = some (.invokespecial ix, 3)) (hw : zown y = w) (hr : zres w ix = some k) (hk : k < 152 ∧ zkind k = 1 ∧ znar k = 1 ∧ zml k = m) (hm : Nat.ble 2 m = true) (hE : zG sc d k 0 l0 [] (M, R, L) o1 gEv) (hc : zcats (v1 :: .ref a :: st) = true) (hz : zroom st = true) (hl : zent m [.ref a, v1] = l0) (hp : pc + 3 = p) (h : ∀ M R L, zG sc (d + 1) y p ls st (M, R, L) (f (M, R, L)) E) : zG sc (d + 1) y pc ls (v1 :: .ref a :: st) (M, R, L) (o1.bind f) E := by
  obtain rfl := hk.2.2.2
  subst hp; subst hw; subst hl
  intro b hb r h' he
  cases o1 with
  | none => cases hb
  | some v =>
    refine zG_callE (k := k) (as := [.ref a, v1]) (rest := st) (r1 := none) (h1 := v) hd ?_ (Nat.le_of_ble_eq_true hm) (hE v rfl _ _ ⟨rfl, rfl⟩) ?_
    · obtain ⟨o1, n1, o2⟩ := gob_sp ho; simp only [zstep, zcallI, if_true, hr]; rw [if_neg (by omega), if_neg (by rw [hk.2.1]; omega), if_pos ⟨hsu, hw2⟩, hk.2.2.1]; simp only [List.drop_succ_cons, List.drop_zero, o2]; rw [if_pos ⟨rfl, o1, hc, hz⟩]; rfl
    · exact h v.1 v.2.1 v.2.2 b hb r h' he
theorem zG_cP1n {α : Type} {sc : ZS} {d y pc p ix w k : Nat} {ls l0 : List Slot} {st : List Value} {M : ZI} {R : ZF} {L : ZY} {o1 : Option Nat} {f : Nat → Option α} {E : α → Option Value → ZH → Prop} {m : Nat} {v1 : Value} {a : Nat} (hsu : zSUL.contains k = true) (hw2 : w = zSBC) (ho : gob L a 11 = true) (hd : zdec y pc = some (.invokespecial ix, 3)) (hw : zown y = w) (hr : zres w ix = some k) (hk : k < 152 ∧ zkind k = 1 ∧ znar k = 1 ∧ zml k = m) (hm : Nat.ble 2 m = true) (hE : zG sc d k 0 l0 [] (M, R, L) o1 (gEn (M, R, L))) (hc : zcats (v1 :: .ref a :: st) = true) (hz : zroom st = true) (hl : zent m [.ref a, v1] = l0) (hp : pc + 3 = p) (h : ∀ v, zG sc (d + 1) y p ls (.ref v :: st) (M, R, L) (f v) E) : zG sc (d + 1) y pc ls (v1 :: .ref a :: st) (M, R, L) (o1.bind f) E := by
  obtain rfl := hk.2.2.2
  subst hp; subst hw; subst hl
  intro b hb r h' he
  cases o1 with
  | none => cases hb
  | some v =>
    refine zG_callE (k := k) (as := [.ref a, v1]) (rest := st) (r1 := (some (.ref v))) (h1 := (M, R, L)) hd ?_ (Nat.le_of_ble_eq_true hm) (hE v rfl _ _ ⟨rfl, rfl⟩) ?_
    · obtain ⟨o1, n1, o2⟩ := gob_sp ho; simp only [zstep, zcallI, if_true, hr]; rw [if_neg (by omega), if_neg (by rw [hk.2.1]; omega), if_pos ⟨hsu, hw2⟩, hk.2.2.1]; simp only [List.drop_succ_cons, List.drop_zero, o2]; rw [if_pos ⟨rfl, o1, hc, hz⟩]; rfl
    · exact h v b hb r h' he
theorem zG_cP1q {α : Type} {sc : ZS} {d y pc p ix w k : Nat} {ls l0 : List Slot} {st : List Value} {M : ZI} {R : ZF} {L : ZY} {o1 : Option (Nat × ZH)} {f : Nat × ZH → Option α} {E : α → Option Value → ZH → Prop} {m : Nat} {v1 : Value} {a : Nat} (hsu : zSUL.contains k = true) (hw2 : w = zSBC) (ho : gob L a 11 = true) (hd : zdec y pc = some (.invokespecial ix, 3)) (hw : zown y = w) (hr : zres w ix = some k) (hk : k < 152 ∧ zkind k = 1 ∧ znar k = 1 ∧ zml k = m) (hm : Nat.ble 2 m = true) (hE : zG sc d k 0 l0 [] (M, R, L) o1 gEq) (hc : zcats (v1 :: .ref a :: st) = true) (hz : zroom st = true) (hl : zent m [.ref a, v1] = l0) (hp : pc + 3 = p) (h : ∀ v M R L, zG sc (d + 1) y p ls (.ref v :: st) (M, R, L) (f (v, M, R, L)) E) : zG sc (d + 1) y pc ls (v1 :: .ref a :: st) (M, R, L) (o1.bind f) E := by
  obtain rfl := hk.2.2.2
  subst hp; subst hw; subst hl
  intro b hb r h' he
  cases o1 with
  | none => cases hb
  | some v =>
    refine zG_callE (k := k) (as := [.ref a, v1]) (rest := st) (r1 := (some (.ref v.1))) (h1 := v.2) hd ?_ (Nat.le_of_ble_eq_true hm) (hE v rfl _ _ ⟨rfl, rfl⟩) ?_
    · obtain ⟨o1, n1, o2⟩ := gob_sp ho; simp only [zstep, zcallI, if_true, hr]; rw [if_neg (by omega), if_neg (by rw [hk.2.1]; omega), if_pos ⟨hsu, hw2⟩, hk.2.2.1]; simp only [List.drop_succ_cons, List.drop_zero, o2]; rw [if_pos ⟨rfl, o1, hc, hz⟩]; rfl
    · exact h v.1 v.2.1 v.2.2.1 v.2.2.2 b hb r h' he
theorem zG_cP2i {α : Type} {sc : ZS} {d y pc p ix w k : Nat} {ls l0 : List Slot} {st : List Value} {M : ZI} {R : ZF} {L : ZY} {o1 : Option Int32} {f : Int32 → Option α} {E : α → Option Value → ZH → Prop} {m : Nat} {v1 v2 : Value} {a : Nat} (hsu : zSUL.contains k = true) (hw2 : w = zSBC) (ho : gob L a 11 = true) (hd : zdec y pc = some (.invokespecial ix, 3)) (hw : zown y = w) (hr : zres w ix = some k) (hk : k < 152 ∧ zkind k = 1 ∧ znar k = 2 ∧ zml k = m) (hm : Nat.ble 3 m = true) (hE : zG sc d k 0 l0 [] (M, R, L) o1 (gEi (M, R, L))) (hc : zcats (v2 :: v1 :: .ref a :: st) = true) (hz : zroom st = true) (hl : zent m [.ref a, v1, v2] = l0) (hp : pc + 3 = p) (h : ∀ v, zG sc (d + 1) y p ls (.int v :: st) (M, R, L) (f v) E) : zG sc (d + 1) y pc ls (v2 :: v1 :: .ref a :: st) (M, R, L) (o1.bind f) E := by
  obtain rfl := hk.2.2.2
  subst hp; subst hw; subst hl
  intro b hb r h' he
  cases o1 with
  | none => cases hb
  | some v =>
    refine zG_callE (k := k) (as := [.ref a, v1, v2]) (rest := st) (r1 := (some (.int v))) (h1 := (M, R, L)) hd ?_ (Nat.le_of_ble_eq_true hm) (hE v rfl _ _ ⟨rfl, rfl⟩) ?_
    · obtain ⟨o1, n1, o2⟩ := gob_sp ho; simp only [zstep, zcallI, if_true, hr]; rw [if_neg (by omega), if_neg (by rw [hk.2.1]; omega), if_pos ⟨hsu, hw2⟩, hk.2.2.1]; simp only [List.drop_succ_cons, List.drop_zero, o2]; rw [if_pos ⟨rfl, o1, hc, hz⟩]; rfl
    · exact h v b hb r h' he
theorem zG_cP2m {α : Type} {sc : ZS} {d y pc p ix w k : Nat} {ls l0 : List Slot} {st : List Value} {M : ZI} {R : ZF} {L : ZY} {o1 : Option (Int32 × ZH)} {f : Int32 × ZH → Option α} {E : α → Option Value → ZH → Prop} {m : Nat} {v1 v2 : Value} {a : Nat} (hsu : zSUL.contains k = true) (hw2 : w = zSBC) (ho : gob L a 11 = true) (hd : zdec y pc = some (.invokespecial ix, 3)) (hw : zown y = w) (hr : zres w ix = some k) (hk : k < 152 ∧ zkind k = 1 ∧ znar k = 2 ∧ zml k = m) (hm : Nat.ble 3 m = true) (hE : zG sc d k 0 l0 [] (M, R, L) o1 gEm) (hc : zcats (v2 :: v1 :: .ref a :: st) = true) (hz : zroom st = true) (hl : zent m [.ref a, v1, v2] = l0) (hp : pc + 3 = p) (h : ∀ v M R L, zG sc (d + 1) y p ls (.int v :: st) (M, R, L) (f (v, M, R, L)) E) : zG sc (d + 1) y pc ls (v2 :: v1 :: .ref a :: st) (M, R, L) (o1.bind f) E := by
  obtain rfl := hk.2.2.2
  subst hp; subst hw; subst hl
  intro b hb r h' he
  cases o1 with
  | none => cases hb
  | some v =>
    refine zG_callE (k := k) (as := [.ref a, v1, v2]) (rest := st) (r1 := (some (.int v.1))) (h1 := v.2) hd ?_ (Nat.le_of_ble_eq_true hm) (hE v rfl _ _ ⟨rfl, rfl⟩) ?_
    · obtain ⟨o1, n1, o2⟩ := gob_sp ho; simp only [zstep, zcallI, if_true, hr]; rw [if_neg (by omega), if_neg (by rw [hk.2.1]; omega), if_pos ⟨hsu, hw2⟩, hk.2.2.1]; simp only [List.drop_succ_cons, List.drop_zero, o2]; rw [if_pos ⟨rfl, o1, hc, hz⟩]; rfl
    · exact h v.1 v.2.1 v.2.2.1 v.2.2.2 b hb r h' he
theorem zG_cP2v {α : Type} {sc : ZS} {d y pc p ix w k : Nat} {ls l0 : List Slot} {st : List Value} {M : ZI} {R : ZF} {L : ZY} {o1 : Option ZH} {f : ZH → Option α} {E : α → Option Value → ZH → Prop} {m : Nat} {v1 v2 : Value} {a : Nat} (hsu : zSUL.contains k = true) (hw2 : w = zSBC) (ho : gob L a 11 = true) (hd : zdec y pc = some (.invokespecial ix, 3)) (hw : zown y = w) (hr : zres w ix = some k) (hk : k < 152 ∧ zkind k = 1 ∧ znar k = 2 ∧ zml k = m) (hm : Nat.ble 3 m = true) (hE : zG sc d k 0 l0 [] (M, R, L) o1 gEv) (hc : zcats (v2 :: v1 :: .ref a :: st) = true) (hz : zroom st = true) (hl : zent m [.ref a, v1, v2] = l0) (hp : pc + 3 = p) (h : ∀ M R L, zG sc (d + 1) y p ls st (M, R, L) (f (M, R, L)) E) : zG sc (d + 1) y pc ls (v2 :: v1 :: .ref a :: st) (M, R, L) (o1.bind f) E := by
  obtain rfl := hk.2.2.2
  subst hp; subst hw; subst hl
  intro b hb r h' he
  cases o1 with
  | none => cases hb
  | some v =>
    refine zG_callE (k := k) (as := [.ref a, v1, v2]) (rest := st) (r1 := none) (h1 := v) hd ?_ (Nat.le_of_ble_eq_true hm) (hE v rfl _ _ ⟨rfl, rfl⟩) ?_
    · obtain ⟨o1, n1, o2⟩ := gob_sp ho; simp only [zstep, zcallI, if_true, hr]; rw [if_neg (by omega), if_neg (by rw [hk.2.1]; omega), if_pos ⟨hsu, hw2⟩, hk.2.2.1]; simp only [List.drop_succ_cons, List.drop_zero, o2]; rw [if_pos ⟨rfl, o1, hc, hz⟩]; rfl
    · exact h v.1 v.2.1 v.2.2 b hb r h' he
theorem zG_cP2n {α : Type} {sc : ZS} {d y pc p ix w k : Nat} {ls l0 : List Slot} {st : List Value} {M : ZI} {R : ZF} {L : ZY} {o1 : Option Nat} {f : Nat → Option α} {E : α → Option Value → ZH → Prop} {m : Nat} {v1 v2 : Value} {a : Nat} (hsu : zSUL.contains k = true) (hw2 : w = zSBC) (ho : gob L a 11 = true) (hd : zdec y pc = some (.invokespecial ix, 3)) (hw : zown y = w) (hr : zres w ix = some k) (hk : k < 152 ∧ zkind k = 1 ∧ znar k = 2 ∧ zml k = m) (hm : Nat.ble 3 m = true) (hE : zG sc d k 0 l0 [] (M, R, L) o1 (gEn (M, R, L))) (hc : zcats (v2 :: v1 :: .ref a :: st) = true) (hz : zroom st = true) (hl : zent m [.ref a, v1, v2] = l0) (hp : pc + 3 = p) (h : ∀ v, zG sc (d + 1) y p ls (.ref v :: st) (M, R, L) (f v) E) : zG sc (d + 1) y pc ls (v2 :: v1 :: .ref a :: st) (M, R, L) (o1.bind f) E := by
  obtain rfl := hk.2.2.2
  subst hp; subst hw; subst hl
  intro b hb r h' he
  cases o1 with
  | none => cases hb
  | some v =>
    refine zG_callE (k := k) (as := [.ref a, v1, v2]) (rest := st) (r1 := (some (.ref v))) (h1 := (M, R, L)) hd ?_ (Nat.le_of_ble_eq_true hm) (hE v rfl _ _ ⟨rfl, rfl⟩) ?_
    · obtain ⟨o1, n1, o2⟩ := gob_sp ho; simp only [zstep, zcallI, if_true, hr]; rw [if_neg (by omega), if_neg (by rw [hk.2.1]; omega), if_pos ⟨hsu, hw2⟩, hk.2.2.1]; simp only [List.drop_succ_cons, List.drop_zero, o2]; rw [if_pos ⟨rfl, o1, hc, hz⟩]; rfl
    · exact h v b hb r h' he
theorem zG_cP2q {α : Type} {sc : ZS} {d y pc p ix w k : Nat} {ls l0 : List Slot} {st : List Value} {M : ZI} {R : ZF} {L : ZY} {o1 : Option (Nat × ZH)} {f : Nat × ZH → Option α} {E : α → Option Value → ZH → Prop} {m : Nat} {v1 v2 : Value} {a : Nat} (hsu : zSUL.contains k = true) (hw2 : w = zSBC) (ho : gob L a 11 = true) (hd : zdec y pc = some (.invokespecial ix, 3)) (hw : zown y = w) (hr : zres w ix = some k) (hk : k < 152 ∧ zkind k = 1 ∧ znar k = 2 ∧ zml k = m) (hm : Nat.ble 3 m = true) (hE : zG sc d k 0 l0 [] (M, R, L) o1 gEq) (hc : zcats (v2 :: v1 :: .ref a :: st) = true) (hz : zroom st = true) (hl : zent m [.ref a, v1, v2] = l0) (hp : pc + 3 = p) (h : ∀ v M R L, zG sc (d + 1) y p ls (.ref v :: st) (M, R, L) (f (v, M, R, L)) E) : zG sc (d + 1) y pc ls (v2 :: v1 :: .ref a :: st) (M, R, L) (o1.bind f) E := by
  obtain rfl := hk.2.2.2
  subst hp; subst hw; subst hl
  intro b hb r h' he
  cases o1 with
  | none => cases hb
  | some v =>
    refine zG_callE (k := k) (as := [.ref a, v1, v2]) (rest := st) (r1 := (some (.ref v.1))) (h1 := v.2) hd ?_ (Nat.le_of_ble_eq_true hm) (hE v rfl _ _ ⟨rfl, rfl⟩) ?_
    · obtain ⟨o1, n1, o2⟩ := gob_sp ho; simp only [zstep, zcallI, if_true, hr]; rw [if_neg (by omega), if_neg (by rw [hk.2.1]; omega), if_pos ⟨hsu, hw2⟩, hk.2.2.1]; simp only [List.drop_succ_cons, List.drop_zero, o2]; rw [if_pos ⟨rfl, o1, hc, hz⟩]; rfl
    · exact h v.1 v.2.1 v.2.2.1 v.2.2.2 b hb r h' he
theorem zG_k0i {α : Type} {sc : ZS} {d y pc p ix w k : Nat} {ls l0 : List Slot} {st : List Value} {M : ZI} {R : ZF} {L : ZY} {o1 : Option Int32} {f : Int32 → Option α} {E : α → Option Value → ZH → Prop} {m : Nat} (hgd : zgood R L = true) (hc2 : zown k = 0 ∧ zdir k = true ∧ zvir k = none) (hd : zdec y pc = some (.invokevirtual ix, 3)) (hw : zown y = w) (hr : zres w ix = some k) (hk : k < 152 ∧ zkind k = 1 ∧ znar k = 0 ∧ zml k = m) (hm : Nat.ble 1 m = true) (hE : ∀ q : ZQ, zLay q → zX q d k 0 l0 [] M o1 (zEi M)) (hc : zcats (.ref 0 :: st) = true) (hz : zroom st = true) (hl : zent m [.ref 0] = l0) (hp : pc + 3 = p) (h : ∀ v, zG sc (d + 1) y p ls (.int v :: st) (M, R, L) (f v) E) : zG sc (d + 1) y pc ls (.ref 0 :: st) (M, R, L) (o1.bind f) E := by
  obtain rfl := hk.2.2.2
  subst hp; subst hw; subst hl
  intro b hb r h' he
  obtain ⟨hL, hRL⟩ := zgood_sp hgd
  cases o1 with
  | none => cases hb
  | some v =>
    refine zG_callE (k := k) (as := [.ref 0]) (rest := st) (r1 := (some (.int v))) (h1 := (M, R, L)) hd ?_ (Nat.le_of_ble_eq_true hm) ?_ ?_
    · simp only [zstep, zcallV, if_true, hr]; rw [if_neg (by omega), if_neg (by omega), if_pos ⟨hk.1, hk.2.1⟩, hk.2.2.1]; simp only [List.drop_succ_cons, List.drop_zero]; exact zG_recv (hzv := hc2.2.2) (by rw [if_neg (by decide)]; exact zgood_ob hgd) ⟨hc2.1, by decide, hc2.2.1⟩ hc hz
    · have := hE (sc, R, L.drop 148) hRL v rfl _ _ ⟨rfl, rfl⟩
      unfold zEnds at this
      rw [show zHc ++ (sc, R, L.drop 148).2.2 = L from hL] at this
      exact this
    · exact h v b hb r h' he
theorem zG_k0m {α : Type} {sc : ZS} {d y pc p ix w k : Nat} {ls l0 : List Slot} {st : List Value} {M : ZI} {R : ZF} {L : ZY} {o1 : Option (Int32 × ZI)} {f : Int32 × ZI → Option α} {E : α → Option Value → ZH → Prop} {m : Nat} (hgd : zgood R L = true) (hc2 : zown k = 0 ∧ zdir k = true ∧ zvir k = none) (hd : zdec y pc = some (.invokevirtual ix, 3)) (hw : zown y = w) (hr : zres w ix = some k) (hk : k < 152 ∧ zkind k = 1 ∧ znar k = 0 ∧ zml k = m) (hm : Nat.ble 1 m = true) (hE : ∀ q : ZQ, zLay q → zX q d k 0 l0 [] M o1 zEm) (hc : zcats (.ref 0 :: st) = true) (hz : zroom st = true) (hl : zent m [.ref 0] = l0) (hp : pc + 3 = p) (h : ∀ v M, zG sc (d + 1) y p ls (.int v :: st) (M, R, L) (f (v, M)) E) : zG sc (d + 1) y pc ls (.ref 0 :: st) (M, R, L) (o1.bind f) E := by
  obtain rfl := hk.2.2.2
  subst hp; subst hw; subst hl
  intro b hb r h' he
  obtain ⟨hL, hRL⟩ := zgood_sp hgd
  cases o1 with
  | none => cases hb
  | some v =>
    refine zG_callE (k := k) (as := [.ref 0]) (rest := st) (r1 := (some (.int v.1))) (h1 := (v.2, R, L)) hd ?_ (Nat.le_of_ble_eq_true hm) ?_ ?_
    · simp only [zstep, zcallV, if_true, hr]; rw [if_neg (by omega), if_neg (by omega), if_pos ⟨hk.1, hk.2.1⟩, hk.2.2.1]; simp only [List.drop_succ_cons, List.drop_zero]; exact zG_recv (hzv := hc2.2.2) (by rw [if_neg (by decide)]; exact zgood_ob hgd) ⟨hc2.1, by decide, hc2.2.1⟩ hc hz
    · have := hE (sc, R, L.drop 148) hRL v rfl _ _ ⟨rfl, rfl⟩
      unfold zEnds at this
      rw [show zHc ++ (sc, R, L.drop 148).2.2 = L from hL] at this
      exact this
    · exact h v.1 v.2 b hb r h' he
theorem zG_k0v {α : Type} {sc : ZS} {d y pc p ix w k : Nat} {ls l0 : List Slot} {st : List Value} {M : ZI} {R : ZF} {L : ZY} {o1 : Option ZI} {f : ZI → Option α} {E : α → Option Value → ZH → Prop} {m : Nat} (hgd : zgood R L = true) (hc2 : zown k = 0 ∧ zdir k = true ∧ zvir k = none) (hd : zdec y pc = some (.invokevirtual ix, 3)) (hw : zown y = w) (hr : zres w ix = some k) (hk : k < 152 ∧ zkind k = 1 ∧ znar k = 0 ∧ zml k = m) (hm : Nat.ble 1 m = true) (hE : ∀ q : ZQ, zLay q → zX q d k 0 l0 [] M o1 zEv) (hc : zcats (.ref 0 :: st) = true) (hz : zroom st = true) (hl : zent m [.ref 0] = l0) (hp : pc + 3 = p) (h : ∀ M, zG sc (d + 1) y p ls st (M, R, L) (f M) E) : zG sc (d + 1) y pc ls (.ref 0 :: st) (M, R, L) (o1.bind f) E := by
  obtain rfl := hk.2.2.2
  subst hp; subst hw; subst hl
  intro b hb r h' he
  obtain ⟨hL, hRL⟩ := zgood_sp hgd
  cases o1 with
  | none => cases hb
  | some v =>
    refine zG_callE (k := k) (as := [.ref 0]) (rest := st) (r1 := none) (h1 := (v, R, L)) hd ?_ (Nat.le_of_ble_eq_true hm) ?_ ?_
    · simp only [zstep, zcallV, if_true, hr]; rw [if_neg (by omega), if_neg (by omega), if_pos ⟨hk.1, hk.2.1⟩, hk.2.2.1]; simp only [List.drop_succ_cons, List.drop_zero]; exact zG_recv (hzv := hc2.2.2) (by rw [if_neg (by decide)]; exact zgood_ob hgd) ⟨hc2.1, by decide, hc2.2.1⟩ hc hz
    · have := hE (sc, R, L.drop 148) hRL v rfl _ _ ⟨rfl, rfl⟩
      unfold zEnds at this
      rw [show zHc ++ (sc, R, L.drop 148).2.2 = L from hL] at this
      exact this
    · exact h v b hb r h' he
theorem zG_k1i {α : Type} {sc : ZS} {d y pc p ix w k : Nat} {ls l0 : List Slot} {st : List Value} {M : ZI} {R : ZF} {L : ZY} {o1 : Option Int32} {f : Int32 → Option α} {E : α → Option Value → ZH → Prop} {m : Nat} {v1 : Int32} (hgd : zgood R L = true) (hc2 : zown k = 0 ∧ zdir k = true ∧ zvir k = none) (hd : zdec y pc = some (.invokevirtual ix, 3)) (hw : zown y = w) (hr : zres w ix = some k) (hk : k < 152 ∧ zkind k = 1 ∧ znar k = 1 ∧ zml k = m) (hm : Nat.ble 2 m = true) (hE : ∀ q : ZQ, zLay q → zX q d k 0 l0 [] M o1 (zEi M)) (hc : zcats (.int v1 :: .ref 0 :: st) = true) (hz : zroom st = true) (hl : zent m [.ref 0, .int v1] = l0) (hp : pc + 3 = p) (h : ∀ v, zG sc (d + 1) y p ls (.int v :: st) (M, R, L) (f v) E) : zG sc (d + 1) y pc ls (.int v1 :: .ref 0 :: st) (M, R, L) (o1.bind f) E := by
  obtain rfl := hk.2.2.2
  subst hp; subst hw; subst hl
  intro b hb r h' he
  obtain ⟨hL, hRL⟩ := zgood_sp hgd
  cases o1 with
  | none => cases hb
  | some v =>
    refine zG_callE (k := k) (as := [.ref 0, .int v1]) (rest := st) (r1 := (some (.int v))) (h1 := (M, R, L)) hd ?_ (Nat.le_of_ble_eq_true hm) ?_ ?_
    · simp only [zstep, zcallV, if_true, hr]; rw [if_neg (by omega), if_neg (by omega), if_pos ⟨hk.1, hk.2.1⟩, hk.2.2.1]; simp only [List.drop_succ_cons, List.drop_zero]; exact zG_recv (hzv := hc2.2.2) (by rw [if_neg (by decide)]; exact zgood_ob hgd) ⟨hc2.1, by decide, hc2.2.1⟩ hc hz
    · have := hE (sc, R, L.drop 148) hRL v rfl _ _ ⟨rfl, rfl⟩
      unfold zEnds at this
      rw [show zHc ++ (sc, R, L.drop 148).2.2 = L from hL] at this
      exact this
    · exact h v b hb r h' he
theorem zG_k1m {α : Type} {sc : ZS} {d y pc p ix w k : Nat} {ls l0 : List Slot} {st : List Value} {M : ZI} {R : ZF} {L : ZY} {o1 : Option (Int32 × ZI)} {f : Int32 × ZI → Option α} {E : α → Option Value → ZH → Prop} {m : Nat} {v1 : Int32} (hgd : zgood R L = true) (hc2 : zown k = 0 ∧ zdir k = true ∧ zvir k = none) (hd : zdec y pc = some (.invokevirtual ix, 3)) (hw : zown y = w) (hr : zres w ix = some k) (hk : k < 152 ∧ zkind k = 1 ∧ znar k = 1 ∧ zml k = m) (hm : Nat.ble 2 m = true) (hE : ∀ q : ZQ, zLay q → zX q d k 0 l0 [] M o1 zEm) (hc : zcats (.int v1 :: .ref 0 :: st) = true) (hz : zroom st = true) (hl : zent m [.ref 0, .int v1] = l0) (hp : pc + 3 = p) (h : ∀ v M, zG sc (d + 1) y p ls (.int v :: st) (M, R, L) (f (v, M)) E) : zG sc (d + 1) y pc ls (.int v1 :: .ref 0 :: st) (M, R, L) (o1.bind f) E := by
  obtain rfl := hk.2.2.2
  subst hp; subst hw; subst hl
  intro b hb r h' he
  obtain ⟨hL, hRL⟩ := zgood_sp hgd
  cases o1 with
  | none => cases hb
  | some v =>
    refine zG_callE (k := k) (as := [.ref 0, .int v1]) (rest := st) (r1 := (some (.int v.1))) (h1 := (v.2, R, L)) hd ?_ (Nat.le_of_ble_eq_true hm) ?_ ?_
    · simp only [zstep, zcallV, if_true, hr]; rw [if_neg (by omega), if_neg (by omega), if_pos ⟨hk.1, hk.2.1⟩, hk.2.2.1]; simp only [List.drop_succ_cons, List.drop_zero]; exact zG_recv (hzv := hc2.2.2) (by rw [if_neg (by decide)]; exact zgood_ob hgd) ⟨hc2.1, by decide, hc2.2.1⟩ hc hz
    · have := hE (sc, R, L.drop 148) hRL v rfl _ _ ⟨rfl, rfl⟩
      unfold zEnds at this
      rw [show zHc ++ (sc, R, L.drop 148).2.2 = L from hL] at this
      exact this
    · exact h v.1 v.2 b hb r h' he
theorem zG_k1v {α : Type} {sc : ZS} {d y pc p ix w k : Nat} {ls l0 : List Slot} {st : List Value} {M : ZI} {R : ZF} {L : ZY} {o1 : Option ZI} {f : ZI → Option α} {E : α → Option Value → ZH → Prop} {m : Nat} {v1 : Int32} (hgd : zgood R L = true) (hc2 : zown k = 0 ∧ zdir k = true ∧ zvir k = none) (hd : zdec y pc = some (.invokevirtual ix, 3)) (hw : zown y = w) (hr : zres w ix = some k) (hk : k < 152 ∧ zkind k = 1 ∧ znar k = 1 ∧ zml k = m) (hm : Nat.ble 2 m = true) (hE : ∀ q : ZQ, zLay q → zX q d k 0 l0 [] M o1 zEv) (hc : zcats (.int v1 :: .ref 0 :: st) = true) (hz : zroom st = true) (hl : zent m [.ref 0, .int v1] = l0) (hp : pc + 3 = p) (h : ∀ M, zG sc (d + 1) y p ls st (M, R, L) (f M) E) : zG sc (d + 1) y pc ls (.int v1 :: .ref 0 :: st) (M, R, L) (o1.bind f) E := by
  obtain rfl := hk.2.2.2
  subst hp; subst hw; subst hl
  intro b hb r h' he
  obtain ⟨hL, hRL⟩ := zgood_sp hgd
  cases o1 with
  | none => cases hb
  | some v =>
    refine zG_callE (k := k) (as := [.ref 0, .int v1]) (rest := st) (r1 := none) (h1 := (v, R, L)) hd ?_ (Nat.le_of_ble_eq_true hm) ?_ ?_
    · simp only [zstep, zcallV, if_true, hr]; rw [if_neg (by omega), if_neg (by omega), if_pos ⟨hk.1, hk.2.1⟩, hk.2.2.1]; simp only [List.drop_succ_cons, List.drop_zero]; exact zG_recv (hzv := hc2.2.2) (by rw [if_neg (by decide)]; exact zgood_ob hgd) ⟨hc2.1, by decide, hc2.2.1⟩ hc hz
    · have := hE (sc, R, L.drop 148) hRL v rfl _ _ ⟨rfl, rfl⟩
      unfold zEnds at this
      rw [show zHc ++ (sc, R, L.drop 148).2.2 = L from hL] at this
      exact this
    · exact h v b hb r h' he
theorem zG_k2i {α : Type} {sc : ZS} {d y pc p ix w k : Nat} {ls l0 : List Slot} {st : List Value} {M : ZI} {R : ZF} {L : ZY} {o1 : Option Int32} {f : Int32 → Option α} {E : α → Option Value → ZH → Prop} {m : Nat} {v1 v2 : Int32} (hgd : zgood R L = true) (hc2 : zown k = 0 ∧ zdir k = true ∧ zvir k = none) (hd : zdec y pc = some (.invokevirtual ix, 3)) (hw : zown y = w) (hr : zres w ix = some k) (hk : k < 152 ∧ zkind k = 1 ∧ znar k = 2 ∧ zml k = m) (hm : Nat.ble 3 m = true) (hE : ∀ q : ZQ, zLay q → zX q d k 0 l0 [] M o1 (zEi M)) (hc : zcats (.int v2 :: .int v1 :: .ref 0 :: st) = true) (hz : zroom st = true) (hl : zent m [.ref 0, .int v1, .int v2] = l0) (hp : pc + 3 = p) (h : ∀ v, zG sc (d + 1) y p ls (.int v :: st) (M, R, L) (f v) E) : zG sc (d + 1) y pc ls (.int v2 :: .int v1 :: .ref 0 :: st) (M, R, L) (o1.bind f) E := by
  obtain rfl := hk.2.2.2
  subst hp; subst hw; subst hl
  intro b hb r h' he
  obtain ⟨hL, hRL⟩ := zgood_sp hgd
  cases o1 with
  | none => cases hb
  | some v =>
    refine zG_callE (k := k) (as := [.ref 0, .int v1, .int v2]) (rest := st) (r1 := (some (.int v))) (h1 := (M, R, L)) hd ?_ (Nat.le_of_ble_eq_true hm) ?_ ?_
    · simp only [zstep, zcallV, if_true, hr]; rw [if_neg (by omega), if_neg (by omega), if_pos ⟨hk.1, hk.2.1⟩, hk.2.2.1]; simp only [List.drop_succ_cons, List.drop_zero]; exact zG_recv (hzv := hc2.2.2) (by rw [if_neg (by decide)]; exact zgood_ob hgd) ⟨hc2.1, by decide, hc2.2.1⟩ hc hz
    · have := hE (sc, R, L.drop 148) hRL v rfl _ _ ⟨rfl, rfl⟩
      unfold zEnds at this
      rw [show zHc ++ (sc, R, L.drop 148).2.2 = L from hL] at this
      exact this
    · exact h v b hb r h' he
theorem zG_k2m {α : Type} {sc : ZS} {d y pc p ix w k : Nat} {ls l0 : List Slot} {st : List Value} {M : ZI} {R : ZF} {L : ZY} {o1 : Option (Int32 × ZI)} {f : Int32 × ZI → Option α} {E : α → Option Value → ZH → Prop} {m : Nat} {v1 v2 : Int32} (hgd : zgood R L = true) (hc2 : zown k = 0 ∧ zdir k = true ∧ zvir k = none) (hd : zdec y pc = some (.invokevirtual ix, 3)) (hw : zown y = w) (hr : zres w ix = some k) (hk : k < 152 ∧ zkind k = 1 ∧ znar k = 2 ∧ zml k = m) (hm : Nat.ble 3 m = true) (hE : ∀ q : ZQ, zLay q → zX q d k 0 l0 [] M o1 zEm) (hc : zcats (.int v2 :: .int v1 :: .ref 0 :: st) = true) (hz : zroom st = true) (hl : zent m [.ref 0, .int v1, .int v2] = l0) (hp : pc + 3 = p) (h : ∀ v M, zG sc (d + 1) y p ls (.int v :: st) (M, R, L) (f (v, M)) E) : zG sc (d + 1) y pc ls (.int v2 :: .int v1 :: .ref 0 :: st) (M, R, L) (o1.bind f) E := by
  obtain rfl := hk.2.2.2
  subst hp; subst hw; subst hl
  intro b hb r h' he
  obtain ⟨hL, hRL⟩ := zgood_sp hgd
  cases o1 with
  | none => cases hb
  | some v =>
    refine zG_callE (k := k) (as := [.ref 0, .int v1, .int v2]) (rest := st) (r1 := (some (.int v.1))) (h1 := (v.2, R, L)) hd ?_ (Nat.le_of_ble_eq_true hm) ?_ ?_
    · simp only [zstep, zcallV, if_true, hr]; rw [if_neg (by omega), if_neg (by omega), if_pos ⟨hk.1, hk.2.1⟩, hk.2.2.1]; simp only [List.drop_succ_cons, List.drop_zero]; exact zG_recv (hzv := hc2.2.2) (by rw [if_neg (by decide)]; exact zgood_ob hgd) ⟨hc2.1, by decide, hc2.2.1⟩ hc hz
    · have := hE (sc, R, L.drop 148) hRL v rfl _ _ ⟨rfl, rfl⟩
      unfold zEnds at this
      rw [show zHc ++ (sc, R, L.drop 148).2.2 = L from hL] at this
      exact this
    · exact h v.1 v.2 b hb r h' he
theorem zG_k2v {α : Type} {sc : ZS} {d y pc p ix w k : Nat} {ls l0 : List Slot} {st : List Value} {M : ZI} {R : ZF} {L : ZY} {o1 : Option ZI} {f : ZI → Option α} {E : α → Option Value → ZH → Prop} {m : Nat} {v1 v2 : Int32} (hgd : zgood R L = true) (hc2 : zown k = 0 ∧ zdir k = true ∧ zvir k = none) (hd : zdec y pc = some (.invokevirtual ix, 3)) (hw : zown y = w) (hr : zres w ix = some k) (hk : k < 152 ∧ zkind k = 1 ∧ znar k = 2 ∧ zml k = m) (hm : Nat.ble 3 m = true) (hE : ∀ q : ZQ, zLay q → zX q d k 0 l0 [] M o1 zEv) (hc : zcats (.int v2 :: .int v1 :: .ref 0 :: st) = true) (hz : zroom st = true) (hl : zent m [.ref 0, .int v1, .int v2] = l0) (hp : pc + 3 = p) (h : ∀ M, zG sc (d + 1) y p ls st (M, R, L) (f M) E) : zG sc (d + 1) y pc ls (.int v2 :: .int v1 :: .ref 0 :: st) (M, R, L) (o1.bind f) E := by
  obtain rfl := hk.2.2.2
  subst hp; subst hw; subst hl
  intro b hb r h' he
  obtain ⟨hL, hRL⟩ := zgood_sp hgd
  cases o1 with
  | none => cases hb
  | some v =>
    refine zG_callE (k := k) (as := [.ref 0, .int v1, .int v2]) (rest := st) (r1 := none) (h1 := (v, R, L)) hd ?_ (Nat.le_of_ble_eq_true hm) ?_ ?_
    · simp only [zstep, zcallV, if_true, hr]; rw [if_neg (by omega), if_neg (by omega), if_pos ⟨hk.1, hk.2.1⟩, hk.2.2.1]; simp only [List.drop_succ_cons, List.drop_zero]; exact zG_recv (hzv := hc2.2.2) (by rw [if_neg (by decide)]; exact zgood_ob hgd) ⟨hc2.1, by decide, hc2.2.1⟩ hc hz
    · have := hE (sc, R, L.drop 148) hRL v rfl _ _ ⟨rfl, rfl⟩
      unfold zEnds at this
      rw [show zHc ++ (sc, R, L.drop 148).2.2 = L from hL] at this
      exact this
    · exact h v b hb r h' he
theorem zG_k3i {α : Type} {sc : ZS} {d y pc p ix w k : Nat} {ls l0 : List Slot} {st : List Value} {M : ZI} {R : ZF} {L : ZY} {o1 : Option Int32} {f : Int32 → Option α} {E : α → Option Value → ZH → Prop} {m : Nat} {v1 v2 v3 : Int32} (hgd : zgood R L = true) (hc2 : zown k = 0 ∧ zdir k = true ∧ zvir k = none) (hd : zdec y pc = some (.invokevirtual ix, 3)) (hw : zown y = w) (hr : zres w ix = some k) (hk : k < 152 ∧ zkind k = 1 ∧ znar k = 3 ∧ zml k = m) (hm : Nat.ble 4 m = true) (hE : ∀ q : ZQ, zLay q → zX q d k 0 l0 [] M o1 (zEi M)) (hc : zcats (.int v3 :: .int v2 :: .int v1 :: .ref 0 :: st) = true) (hz : zroom st = true) (hl : zent m [.ref 0, .int v1, .int v2, .int v3] = l0) (hp : pc + 3 = p) (h : ∀ v, zG sc (d + 1) y p ls (.int v :: st) (M, R, L) (f v) E) : zG sc (d + 1) y pc ls (.int v3 :: .int v2 :: .int v1 :: .ref 0 :: st) (M, R, L) (o1.bind f) E := by
  obtain rfl := hk.2.2.2
  subst hp; subst hw; subst hl
  intro b hb r h' he
  obtain ⟨hL, hRL⟩ := zgood_sp hgd
  cases o1 with
  | none => cases hb
  | some v =>
    refine zG_callE (k := k) (as := [.ref 0, .int v1, .int v2, .int v3]) (rest := st) (r1 := (some (.int v))) (h1 := (M, R, L)) hd ?_ (Nat.le_of_ble_eq_true hm) ?_ ?_
    · simp only [zstep, zcallV, if_true, hr]; rw [if_neg (by omega), if_neg (by omega), if_pos ⟨hk.1, hk.2.1⟩, hk.2.2.1]; simp only [List.drop_succ_cons, List.drop_zero]; exact zG_recv (hzv := hc2.2.2) (by rw [if_neg (by decide)]; exact zgood_ob hgd) ⟨hc2.1, by decide, hc2.2.1⟩ hc hz
    · have := hE (sc, R, L.drop 148) hRL v rfl _ _ ⟨rfl, rfl⟩
      unfold zEnds at this
      rw [show zHc ++ (sc, R, L.drop 148).2.2 = L from hL] at this
      exact this
    · exact h v b hb r h' he
theorem zG_k3m {α : Type} {sc : ZS} {d y pc p ix w k : Nat} {ls l0 : List Slot} {st : List Value} {M : ZI} {R : ZF} {L : ZY} {o1 : Option (Int32 × ZI)} {f : Int32 × ZI → Option α} {E : α → Option Value → ZH → Prop} {m : Nat} {v1 v2 v3 : Int32} (hgd : zgood R L = true) (hc2 : zown k = 0 ∧ zdir k = true ∧ zvir k = none) (hd : zdec y pc = some (.invokevirtual ix, 3)) (hw : zown y = w) (hr : zres w ix = some k) (hk : k < 152 ∧ zkind k = 1 ∧ znar k = 3 ∧ zml k = m) (hm : Nat.ble 4 m = true) (hE : ∀ q : ZQ, zLay q → zX q d k 0 l0 [] M o1 zEm) (hc : zcats (.int v3 :: .int v2 :: .int v1 :: .ref 0 :: st) = true) (hz : zroom st = true) (hl : zent m [.ref 0, .int v1, .int v2, .int v3] = l0) (hp : pc + 3 = p) (h : ∀ v M, zG sc (d + 1) y p ls (.int v :: st) (M, R, L) (f (v, M)) E) : zG sc (d + 1) y pc ls (.int v3 :: .int v2 :: .int v1 :: .ref 0 :: st) (M, R, L) (o1.bind f) E := by
  obtain rfl := hk.2.2.2
  subst hp; subst hw; subst hl
  intro b hb r h' he
  obtain ⟨hL, hRL⟩ := zgood_sp hgd
  cases o1 with
  | none => cases hb
  | some v =>
    refine zG_callE (k := k) (as := [.ref 0, .int v1, .int v2, .int v3]) (rest := st) (r1 := (some (.int v.1))) (h1 := (v.2, R, L)) hd ?_ (Nat.le_of_ble_eq_true hm) ?_ ?_
    · simp only [zstep, zcallV, if_true, hr]; rw [if_neg (by omega), if_neg (by omega), if_pos ⟨hk.1, hk.2.1⟩, hk.2.2.1]; simp only [List.drop_succ_cons, List.drop_zero]; exact zG_recv (hzv := hc2.2.2) (by rw [if_neg (by decide)]; exact zgood_ob hgd) ⟨hc2.1, by decide, hc2.2.1⟩ hc hz
    · have := hE (sc, R, L.drop 148) hRL v rfl _ _ ⟨rfl, rfl⟩
      unfold zEnds at this
      rw [show zHc ++ (sc, R, L.drop 148).2.2 = L from hL] at this
      exact this
    · exact h v.1 v.2 b hb r h' he
theorem zG_k3v {α : Type} {sc : ZS} {d y pc p ix w k : Nat} {ls l0 : List Slot} {st : List Value} {M : ZI} {R : ZF} {L : ZY} {o1 : Option ZI} {f : ZI → Option α} {E : α → Option Value → ZH → Prop} {m : Nat} {v1 v2 v3 : Int32} (hgd : zgood R L = true) (hc2 : zown k = 0 ∧ zdir k = true ∧ zvir k = none) (hd : zdec y pc = some (.invokevirtual ix, 3)) (hw : zown y = w) (hr : zres w ix = some k) (hk : k < 152 ∧ zkind k = 1 ∧ znar k = 3 ∧ zml k = m) (hm : Nat.ble 4 m = true) (hE : ∀ q : ZQ, zLay q → zX q d k 0 l0 [] M o1 zEv) (hc : zcats (.int v3 :: .int v2 :: .int v1 :: .ref 0 :: st) = true) (hz : zroom st = true) (hl : zent m [.ref 0, .int v1, .int v2, .int v3] = l0) (hp : pc + 3 = p) (h : ∀ M, zG sc (d + 1) y p ls st (M, R, L) (f M) E) : zG sc (d + 1) y pc ls (.int v3 :: .int v2 :: .int v1 :: .ref 0 :: st) (M, R, L) (o1.bind f) E := by
  obtain rfl := hk.2.2.2
  subst hp; subst hw; subst hl
  intro b hb r h' he
  obtain ⟨hL, hRL⟩ := zgood_sp hgd
  cases o1 with
  | none => cases hb
  | some v =>
    refine zG_callE (k := k) (as := [.ref 0, .int v1, .int v2, .int v3]) (rest := st) (r1 := none) (h1 := (v, R, L)) hd ?_ (Nat.le_of_ble_eq_true hm) ?_ ?_
    · simp only [zstep, zcallV, if_true, hr]; rw [if_neg (by omega), if_neg (by omega), if_pos ⟨hk.1, hk.2.1⟩, hk.2.2.1]; simp only [List.drop_succ_cons, List.drop_zero]; exact zG_recv (hzv := hc2.2.2) (by rw [if_neg (by decide)]; exact zgood_ob hgd) ⟨hc2.1, by decide, hc2.2.1⟩ hc hz
    · have := hE (sc, R, L.drop 148) hRL v rfl _ _ ⟨rfl, rfl⟩
      unfold zEnds at this
      rw [show zHc ++ (sc, R, L.drop 148).2.2 = L from hL] at this
      exact this
    · exact h v b hb r h' he
theorem zG_k4i {α : Type} {sc : ZS} {d y pc p ix w k : Nat} {ls l0 : List Slot} {st : List Value} {M : ZI} {R : ZF} {L : ZY} {o1 : Option Int32} {f : Int32 → Option α} {E : α → Option Value → ZH → Prop} {m : Nat} {v1 v2 v3 v4 : Int32} (hgd : zgood R L = true) (hc2 : zown k = 0 ∧ zdir k = true ∧ zvir k = none) (hd : zdec y pc = some (.invokevirtual ix, 3)) (hw : zown y = w) (hr : zres w ix = some k) (hk : k < 152 ∧ zkind k = 1 ∧ znar k = 4 ∧ zml k = m) (hm : Nat.ble 5 m = true) (hE : ∀ q : ZQ, zLay q → zX q d k 0 l0 [] M o1 (zEi M)) (hc : zcats (.int v4 :: .int v3 :: .int v2 :: .int v1 :: .ref 0 :: st) = true) (hz : zroom st = true) (hl : zent m [.ref 0, .int v1, .int v2, .int v3, .int v4] = l0) (hp : pc + 3 = p) (h : ∀ v, zG sc (d + 1) y p ls (.int v :: st) (M, R, L) (f v) E) : zG sc (d + 1) y pc ls (.int v4 :: .int v3 :: .int v2 :: .int v1 :: .ref 0 :: st) (M, R, L) (o1.bind f) E := by
  obtain rfl := hk.2.2.2
  subst hp; subst hw; subst hl
  intro b hb r h' he
  obtain ⟨hL, hRL⟩ := zgood_sp hgd
  cases o1 with
  | none => cases hb
  | some v =>
    refine zG_callE (k := k) (as := [.ref 0, .int v1, .int v2, .int v3, .int v4]) (rest := st) (r1 := (some (.int v))) (h1 := (M, R, L)) hd ?_ (Nat.le_of_ble_eq_true hm) ?_ ?_
    · simp only [zstep, zcallV, if_true, hr]; rw [if_neg (by omega), if_neg (by omega), if_pos ⟨hk.1, hk.2.1⟩, hk.2.2.1]; simp only [List.drop_succ_cons, List.drop_zero]; exact zG_recv (hzv := hc2.2.2) (by rw [if_neg (by decide)]; exact zgood_ob hgd) ⟨hc2.1, by decide, hc2.2.1⟩ hc hz
    · have := hE (sc, R, L.drop 148) hRL v rfl _ _ ⟨rfl, rfl⟩
      unfold zEnds at this
      rw [show zHc ++ (sc, R, L.drop 148).2.2 = L from hL] at this
      exact this
    · exact h v b hb r h' he
theorem zG_k4m {α : Type} {sc : ZS} {d y pc p ix w k : Nat} {ls l0 : List Slot} {st : List Value} {M : ZI} {R : ZF} {L : ZY} {o1 : Option (Int32 × ZI)} {f : Int32 × ZI → Option α} {E : α → Option Value → ZH → Prop} {m : Nat} {v1 v2 v3 v4 : Int32} (hgd : zgood R L = true) (hc2 : zown k = 0 ∧ zdir k = true ∧ zvir k = none) (hd : zdec y pc = some (.invokevirtual ix, 3)) (hw : zown y = w) (hr : zres w ix = some k) (hk : k < 152 ∧ zkind k = 1 ∧ znar k = 4 ∧ zml k = m) (hm : Nat.ble 5 m = true) (hE : ∀ q : ZQ, zLay q → zX q d k 0 l0 [] M o1 zEm) (hc : zcats (.int v4 :: .int v3 :: .int v2 :: .int v1 :: .ref 0 :: st) = true) (hz : zroom st = true) (hl : zent m [.ref 0, .int v1, .int v2, .int v3, .int v4] = l0) (hp : pc + 3 = p) (h : ∀ v M, zG sc (d + 1) y p ls (.int v :: st) (M, R, L) (f (v, M)) E) : zG sc (d + 1) y pc ls (.int v4 :: .int v3 :: .int v2 :: .int v1 :: .ref 0 :: st) (M, R, L) (o1.bind f) E := by
  obtain rfl := hk.2.2.2
  subst hp; subst hw; subst hl
  intro b hb r h' he
  obtain ⟨hL, hRL⟩ := zgood_sp hgd
  cases o1 with
  | none => cases hb
  | some v =>
    refine zG_callE (k := k) (as := [.ref 0, .int v1, .int v2, .int v3, .int v4]) (rest := st) (r1 := (some (.int v.1))) (h1 := (v.2, R, L)) hd ?_ (Nat.le_of_ble_eq_true hm) ?_ ?_
    · simp only [zstep, zcallV, if_true, hr]; rw [if_neg (by omega), if_neg (by omega), if_pos ⟨hk.1, hk.2.1⟩, hk.2.2.1]; simp only [List.drop_succ_cons, List.drop_zero]; exact zG_recv (hzv := hc2.2.2) (by rw [if_neg (by decide)]; exact zgood_ob hgd) ⟨hc2.1, by decide, hc2.2.1⟩ hc hz
    · have := hE (sc, R, L.drop 148) hRL v rfl _ _ ⟨rfl, rfl⟩
      unfold zEnds at this
      rw [show zHc ++ (sc, R, L.drop 148).2.2 = L from hL] at this
      exact this
    · exact h v.1 v.2 b hb r h' he
theorem zG_k4v {α : Type} {sc : ZS} {d y pc p ix w k : Nat} {ls l0 : List Slot} {st : List Value} {M : ZI} {R : ZF} {L : ZY} {o1 : Option ZI} {f : ZI → Option α} {E : α → Option Value → ZH → Prop} {m : Nat} {v1 v2 v3 v4 : Int32} (hgd : zgood R L = true) (hc2 : zown k = 0 ∧ zdir k = true ∧ zvir k = none) (hd : zdec y pc = some (.invokevirtual ix, 3)) (hw : zown y = w) (hr : zres w ix = some k) (hk : k < 152 ∧ zkind k = 1 ∧ znar k = 4 ∧ zml k = m) (hm : Nat.ble 5 m = true) (hE : ∀ q : ZQ, zLay q → zX q d k 0 l0 [] M o1 zEv) (hc : zcats (.int v4 :: .int v3 :: .int v2 :: .int v1 :: .ref 0 :: st) = true) (hz : zroom st = true) (hl : zent m [.ref 0, .int v1, .int v2, .int v3, .int v4] = l0) (hp : pc + 3 = p) (h : ∀ M, zG sc (d + 1) y p ls st (M, R, L) (f M) E) : zG sc (d + 1) y pc ls (.int v4 :: .int v3 :: .int v2 :: .int v1 :: .ref 0 :: st) (M, R, L) (o1.bind f) E := by
  obtain rfl := hk.2.2.2
  subst hp; subst hw; subst hl
  intro b hb r h' he
  obtain ⟨hL, hRL⟩ := zgood_sp hgd
  cases o1 with
  | none => cases hb
  | some v =>
    refine zG_callE (k := k) (as := [.ref 0, .int v1, .int v2, .int v3, .int v4]) (rest := st) (r1 := none) (h1 := (v, R, L)) hd ?_ (Nat.le_of_ble_eq_true hm) ?_ ?_
    · simp only [zstep, zcallV, if_true, hr]; rw [if_neg (by omega), if_neg (by omega), if_pos ⟨hk.1, hk.2.1⟩, hk.2.2.1]; simp only [List.drop_succ_cons, List.drop_zero]; exact zG_recv (hzv := hc2.2.2) (by rw [if_neg (by decide)]; exact zgood_ob hgd) ⟨hc2.1, by decide, hc2.2.1⟩ hc hz
    · have := hE (sc, R, L.drop 148) hRL v rfl _ _ ⟨rfl, rfl⟩
      unfold zEnds at this
      rw [show zHc ++ (sc, R, L.drop 148).2.2 = L from hL] at this
      exact this
    · exact h v b hb r h' he
theorem zG_k5i {α : Type} {sc : ZS} {d y pc p ix w k : Nat} {ls l0 : List Slot} {st : List Value} {M : ZI} {R : ZF} {L : ZY} {o1 : Option Int32} {f : Int32 → Option α} {E : α → Option Value → ZH → Prop} {m : Nat} {v1 v2 v3 v4 v5 : Int32} (hgd : zgood R L = true) (hc2 : zown k = 0 ∧ zdir k = true ∧ zvir k = none) (hd : zdec y pc = some (.invokevirtual ix, 3)) (hw : zown y = w) (hr : zres w ix = some k) (hk : k < 152 ∧ zkind k = 1 ∧ znar k = 5 ∧ zml k = m) (hm : Nat.ble 6 m = true) (hE : ∀ q : ZQ, zLay q → zX q d k 0 l0 [] M o1 (zEi M)) (hc : zcats (.int v5 :: .int v4 :: .int v3 :: .int v2 :: .int v1 :: .ref 0 :: st) = true) (hz : zroom st = true) (hl : zent m [.ref 0, .int v1, .int v2, .int v3, .int v4, .int v5] = l0) (hp : pc + 3 = p) (h : ∀ v, zG sc (d + 1) y p ls (.int v :: st) (M, R, L) (f v) E) : zG sc (d + 1) y pc ls (.int v5 :: .int v4 :: .int v3 :: .int v2 :: .int v1 :: .ref 0 :: st) (M, R, L) (o1.bind f) E := by
  obtain rfl := hk.2.2.2
  subst hp; subst hw; subst hl
  intro b hb r h' he
  obtain ⟨hL, hRL⟩ := zgood_sp hgd
  cases o1 with
  | none => cases hb
  | some v =>
    refine zG_callE (k := k) (as := [.ref 0, .int v1, .int v2, .int v3, .int v4, .int v5]) (rest := st) (r1 := (some (.int v))) (h1 := (M, R, L)) hd ?_ (Nat.le_of_ble_eq_true hm) ?_ ?_
    · simp only [zstep, zcallV, if_true, hr]; rw [if_neg (by omega), if_neg (by omega), if_pos ⟨hk.1, hk.2.1⟩, hk.2.2.1]; simp only [List.drop_succ_cons, List.drop_zero]; exact zG_recv (hzv := hc2.2.2) (by rw [if_neg (by decide)]; exact zgood_ob hgd) ⟨hc2.1, by decide, hc2.2.1⟩ hc hz
    · have := hE (sc, R, L.drop 148) hRL v rfl _ _ ⟨rfl, rfl⟩
      unfold zEnds at this
      rw [show zHc ++ (sc, R, L.drop 148).2.2 = L from hL] at this
      exact this
    · exact h v b hb r h' he
theorem zG_k5m {α : Type} {sc : ZS} {d y pc p ix w k : Nat} {ls l0 : List Slot} {st : List Value} {M : ZI} {R : ZF} {L : ZY} {o1 : Option (Int32 × ZI)} {f : Int32 × ZI → Option α} {E : α → Option Value → ZH → Prop} {m : Nat} {v1 v2 v3 v4 v5 : Int32} (hgd : zgood R L = true) (hc2 : zown k = 0 ∧ zdir k = true ∧ zvir k = none) (hd : zdec y pc = some (.invokevirtual ix, 3)) (hw : zown y = w) (hr : zres w ix = some k) (hk : k < 152 ∧ zkind k = 1 ∧ znar k = 5 ∧ zml k = m) (hm : Nat.ble 6 m = true) (hE : ∀ q : ZQ, zLay q → zX q d k 0 l0 [] M o1 zEm) (hc : zcats (.int v5 :: .int v4 :: .int v3 :: .int v2 :: .int v1 :: .ref 0 :: st) = true) (hz : zroom st = true) (hl : zent m [.ref 0, .int v1, .int v2, .int v3, .int v4, .int v5] = l0) (hp : pc + 3 = p) (h : ∀ v M, zG sc (d + 1) y p ls (.int v :: st) (M, R, L) (f (v, M)) E) : zG sc (d + 1) y pc ls (.int v5 :: .int v4 :: .int v3 :: .int v2 :: .int v1 :: .ref 0 :: st) (M, R, L) (o1.bind f) E := by
  obtain rfl := hk.2.2.2
  subst hp; subst hw; subst hl
  intro b hb r h' he
  obtain ⟨hL, hRL⟩ := zgood_sp hgd
  cases o1 with
  | none => cases hb
  | some v =>
    refine zG_callE (k := k) (as := [.ref 0, .int v1, .int v2, .int v3, .int v4, .int v5]) (rest := st) (r1 := (some (.int v.1))) (h1 := (v.2, R, L)) hd ?_ (Nat.le_of_ble_eq_true hm) ?_ ?_
    · simp only [zstep, zcallV, if_true, hr]; rw [if_neg (by omega), if_neg (by omega), if_pos ⟨hk.1, hk.2.1⟩, hk.2.2.1]; simp only [List.drop_succ_cons, List.drop_zero]; exact zG_recv (hzv := hc2.2.2) (by rw [if_neg (by decide)]; exact zgood_ob hgd) ⟨hc2.1, by decide, hc2.2.1⟩ hc hz
    · have := hE (sc, R, L.drop 148) hRL v rfl _ _ ⟨rfl, rfl⟩
      unfold zEnds at this
      rw [show zHc ++ (sc, R, L.drop 148).2.2 = L from hL] at this
      exact this
    · exact h v.1 v.2 b hb r h' he
theorem zG_k5v {α : Type} {sc : ZS} {d y pc p ix w k : Nat} {ls l0 : List Slot} {st : List Value} {M : ZI} {R : ZF} {L : ZY} {o1 : Option ZI} {f : ZI → Option α} {E : α → Option Value → ZH → Prop} {m : Nat} {v1 v2 v3 v4 v5 : Int32} (hgd : zgood R L = true) (hc2 : zown k = 0 ∧ zdir k = true ∧ zvir k = none) (hd : zdec y pc = some (.invokevirtual ix, 3)) (hw : zown y = w) (hr : zres w ix = some k) (hk : k < 152 ∧ zkind k = 1 ∧ znar k = 5 ∧ zml k = m) (hm : Nat.ble 6 m = true) (hE : ∀ q : ZQ, zLay q → zX q d k 0 l0 [] M o1 zEv) (hc : zcats (.int v5 :: .int v4 :: .int v3 :: .int v2 :: .int v1 :: .ref 0 :: st) = true) (hz : zroom st = true) (hl : zent m [.ref 0, .int v1, .int v2, .int v3, .int v4, .int v5] = l0) (hp : pc + 3 = p) (h : ∀ M, zG sc (d + 1) y p ls st (M, R, L) (f M) E) : zG sc (d + 1) y pc ls (.int v5 :: .int v4 :: .int v3 :: .int v2 :: .int v1 :: .ref 0 :: st) (M, R, L) (o1.bind f) E := by
  obtain rfl := hk.2.2.2
  subst hp; subst hw; subst hl
  intro b hb r h' he
  obtain ⟨hL, hRL⟩ := zgood_sp hgd
  cases o1 with
  | none => cases hb
  | some v =>
    refine zG_callE (k := k) (as := [.ref 0, .int v1, .int v2, .int v3, .int v4, .int v5]) (rest := st) (r1 := none) (h1 := (v, R, L)) hd ?_ (Nat.le_of_ble_eq_true hm) ?_ ?_
    · simp only [zstep, zcallV, if_true, hr]; rw [if_neg (by omega), if_neg (by omega), if_pos ⟨hk.1, hk.2.1⟩, hk.2.2.1]; simp only [List.drop_succ_cons, List.drop_zero]; exact zG_recv (hzv := hc2.2.2) (by rw [if_neg (by decide)]; exact zgood_ob hgd) ⟨hc2.1, by decide, hc2.2.1⟩ hc hz
    · have := hE (sc, R, L.drop 148) hRL v rfl _ _ ⟨rfl, rfl⟩
      unfold zEnds at this
      rw [show zHc ++ (sc, R, L.drop 148).2.2 = L from hL] at this
      exact this
    · exact h v b hb r h' he
theorem zG_s1i {α : Type} {sc : ZS} {d y pc p ix w k : Nat} {ls l0 : List Slot} {st : List Value} {M : ZI} {R : ZF} {L : ZY} {o1 : Option Int32} {f : Int32 → Option α} {E : α → Option Value → ZH → Prop} {m : Nat} {v1 : Int32} (hgd : zgood R L = true) (hd : zdec y pc = some (.invokestatic ix, 3)) (hw : zown y = w) (hr : zres w ix = some k) (hk : k < 152 ∧ zkind k = 0 ∧ znar k = 1 ∧ zml k = m) (hm : Nat.ble 1 m = true) (hE : ∀ q : ZQ, zLay q → zX q d k 0 l0 [] M o1 (zEi M)) (hc : zcats (.int v1 :: st) = true) (hz : zroom st = true) (hl : zent m [.int v1] = l0) (hp : pc + 3 = p) (h : ∀ v, zG sc (d + 1) y p ls (.int v :: st) (M, R, L) (f v) E) : zG sc (d + 1) y pc ls (.int v1 :: st) (M, R, L) (o1.bind f) E := by
  obtain rfl := hk.2.2.2
  subst hp; subst hw; subst hl
  intro b hb r h' he
  obtain ⟨hL, hRL⟩ := zgood_sp hgd
  cases o1 with
  | none => cases hb
  | some v =>
    refine zG_callE (k := k) (as := [.int v1]) (rest := st) (r1 := (some (.int v))) (h1 := (M, R, L)) hd ?_ (Nat.le_of_ble_eq_true hm) ?_ ?_
    · simp only [zstep, zcallS, if_true, hr]; rw [if_neg (by omega), if_neg (by omega), if_neg (by omega), if_pos ⟨hk.1, hk.2.1, by rw [hk.2.2.1]; simp, hc, by rw [hk.2.2.1]; exact hz⟩, hk.2.2.1]; rfl
    · have := hE (sc, R, L.drop 148) hRL v rfl _ _ ⟨rfl, rfl⟩
      unfold zEnds at this
      rw [show zHc ++ (sc, R, L.drop 148).2.2 = L from hL] at this
      exact this
    · exact h v b hb r h' he
