theorem zcmp_h1 {a b : Int32} (h : a < b) : ¬ b ≤ a := by simpa using h
theorem zcmp_h2 {a b : Int32} (h : ¬ a < b) : b ≤ a := by simpa using h
-- ===== WALKING: what a run of the plain machine comes to, by rules; the memory of ints alone changes =====
abbrev ZQ : Type := ZS × (Nat → Nat → Option Nat) × List (Nat × Nat)
/-- what the class's object lies in: the first 148 cells -/
def zHc : List (Nat × Nat) := [(3, 9), (4, 16), (5, 11), (0, 10), (0, 10), (0, 10), (0, 10), (6, 4), (0, 150), (0, 150), (0, 150), (0, 150), (7, 6), (8, 4), (0, 400), (0, 400), (0, 64), (0, 16), (0, 16), (0, 16), (0, 16), (9, 10), (0, 12), (0, 12), (0, 12), (0, 12), (0, 12), (0, 12), (0, 12), (10, 2), (8, 4), (0, 400), (0, 400), (0, 64), (11, 3), (0, 8), (0, 8), (0, 10), (0, 10), (0, 10), (0, 10), (0, 9), (4, 16), (5, 11), (0, 10), (0, 10), (0, 10), (0, 10), (6, 4), (0, 150), (0, 150), (0, 150), (0, 150), (7, 6), (8, 4), (0, 400), (0, 400), (0, 64), (0, 16), (0, 16), (0, 16), (0, 16), (9, 10), (0, 12), (0, 12), (0, 12), (0, 12), (0, 12), (0, 12), (0, 12), (10, 2), (8, 4), (0, 400), (0, 400), (0, 64), (11, 3), (0, 8), (0, 8), (0, 10), (0, 10), (0, 10), (0, 10), (0, 9), (2, 6), (5, 11), (0, 10), (0, 10), (0, 10), (0, 10), (5, 11), (0, 10), (0, 10), (0, 10), (0, 10), (5, 11), (0, 10), (0, 10), (0, 10), (0, 10), (5, 11), (0, 10), (0, 10), (0, 10), (0, 10), (5, 11), (0, 10), (0, 10), (0, 10), (0, 10), (5, 11), (0, 10), (0, 10), (0, 10), (0, 10), (5, 11), (0, 10), (0, 10), (0, 10), (0, 10), (12, 16), (0, 400), (0, 401), (0, 401), (0, 401), (7, 6), (8, 4), (0, 400), (0, 400), (0, 64), (0, 16), (0, 16), (0, 16), (0, 16), (0, 10), (9, 10), (0, 12), (0, 12), (0, 12), (0, 12), (0, 12), (0, 12), (0, 12), (10, 2), (8, 4), (0, 400), (0, 400), (0, 64), (1, 1024)]
def zHr : List (Nat × Nat) := zH0.drop 148
theorem zH0_eq : zH0 = zHc ++ zHr := by decide +kernel
theorem zL_app {o : Nat} {x : Nat × Nat} {X : List (Nat × Nat)} (h : zHc[o]? = some x) : (zHc ++ X)[o]? = some x := by
  rw [List.getElem?_append_left (List.getElem?_eq_some_iff.mp h).1, h]
def zEnds (q : ZQ) (d y pc : Nat) (ls : List Slot) (st : List Value) (M : ZI) (r : Option Value) (M' : ZI) : Prop := ∃ n, zrun q.1 n d y pc ls st (M, q.2.1, zHc ++ q.2.2) = some (r, (M', q.2.1, zHc ++ q.2.2))
def zX {α : Type} (q : ZQ) (d y pc : Nat) (ls : List Slot) (st : List Value) (M : ZI) (o : Option α) (E : α → Option Value → ZI → Prop) : Prop := ∀ a, o = some a → ∀ r M', E a r M' → zEnds q d y pc ls st M r M'
def zEi (M : ZI) : Int32 → Option Value → ZI → Prop := fun v r M' => r = some (.int v) ∧ M' = M
def zEm : Int32 × ZI → Option Value → ZI → Prop := fun p r M' => r = some (.int p.1) ∧ M' = p.2
def zEv : ZI → Option Value → ZI → Prop := fun m r M' => r = none ∧ M' = m
abbrev zEj {β σ : Type} (q : ZQ) (d y pj : Nat) (lj : β → σ → List Slot) (sj : β → List Value) (mj : β → ZI) : β → Option Value → ZI → Prop := fun b r M' => ∀ s : σ, zEnds q d y pj (lj b s) (sj b) (mj b) r M'
def zOb (c o : Nat) : Prop := o < 1000000 ∧ zHc[o]? = some (c + 3, zN c)
def zAr (o n : Nat) : Prop := o < 1000000 ∧ zHc[o]? = some (0, n)
def zBr (o n : Nat) : Prop := o < 1000000 ∧ zHc[o]? = some (1, n)
theorem zAr_al {o n : Nat} (h : zAr o n) : zAr o (zal o) ∧ zal o = n := by
  obtain ⟨h1, h2⟩ := h
  have h3 := zL_app (X := zHr) h2
  rw [← zH0_eq] at h3
  have : zal o = n := by simp [zal, List.getD, h3]
  exact ⟨⟨h1, by rw [this, h2]⟩, this⟩
theorem zrun_le (sc : ZS) : ∀ (n m d y pc : Nat) (ls : List Slot) (st : List Value) (h : ZH) (x : Option Value × ZH), n ≤ m → zrun sc n d y pc ls st h = some x → zrun sc m d y pc ls st h = some x := by
  intro n
  induction n with
  | zero => intro m d y pc ls st h x _ hx; cases hx
  | succ n ih =>
    intro m d y pc ls st h x hnm hx
    obtain ⟨m, rfl⟩ : ∃ k, m = k + 1 := ⟨m - 1, by omega⟩
    have hnm : n ≤ m := by omega
    unfold zrun at hx ⊢
    cases hdec : zdec y pc with
    | none => rw [hdec] at hx; cases hx
    | some r =>
      obtain ⟨ins, len⟩ := r
      rw [hdec] at hx
      simp only at hx ⊢
      cases hst : zstep sc y pc ins len ls st h with
      | none => rw [hst] at hx; cases hx
      | some r =>
        rw [hst] at hx
        rcases r with ⟨pc', ls', st', h'⟩ | v | ⟨k, as, rest⟩
        · simp only at hx ⊢
          exact ih m d y pc' ls' st' h' x hnm hx
        · simp only at hx ⊢
          exact hx
        · simp only at hx ⊢
          cases d with
          | zero => cases hx
          | succ d =>
            simp only at hx ⊢
            split at hx
            · rename_i hal
              rw [if_pos hal]
              split at hx
              · cases hx
              · rename_i v h' hc
                rw [ih m d k 0 _ _ _ _ hnm hc]
                simp only
                exact ih m _ y _ _ _ _ x hnm hx
            · cases hx
theorem zX_step {α : Type} {q : ZQ} {d y pc : Nat} {ls : List Slot} {st : List Value} {M : ZI} {o : Option α} {E : α → Option Value → ZI → Prop} {ins : Instr} {len p : Nat} {ls' : List Slot} {st' : List Value} {M' : ZI} (hd : zdec y pc = some (ins, len)) (hs : zstep q.1 y pc ins len ls st (M, q.2.1, zHc ++ q.2.2) = zn p ls' st' (M', q.2.1, zHc ++ q.2.2)) (h : zX q d y p ls' st' M' o E) : zX q d y pc ls st M o E := by
  intro a ha r M'' he
  obtain ⟨n, hn⟩ := h a ha r M'' he
  refine ⟨n + 1, ?_⟩
  unfold zrun
  rw [hd]
  simp only
  rw [hs]
  exact hn
theorem zEnds_call {q : ZQ} {d y pc k : Nat} {ls : List Slot} {st : List Value} {M M1 : ZI} {ins : Instr} {len : Nat} {as rest : List Value} {r1 : Option Value} {r : Option Value} {M' : ZI} (hd : zdec y pc = some (ins, len)) (hs : zstep q.1 y pc ins len ls st (M, q.2.1, zHc ++ q.2.2) = some (.inr (.inr (k, as, rest)))) (hal : as.length ≤ zml k) (hc : zEnds q d k 0 (zent (zml k) as) [] M r1 M1) (h : zEnds q (d + 1) y (pc + 3) ls (r1.toList ++ rest) M1 r M') : zEnds q (d + 1) y pc ls st M r M' := by
  obtain ⟨n1, h1⟩ := hc
  obtain ⟨n2, h2⟩ := h
  refine ⟨max n1 n2 + 1, ?_⟩
  unfold zrun
  rw [hd]
  simp only
  rw [hs]
  simp only
  rw [if_pos hal, zrun_le q.1 n1 (max n1 n2) _ _ _ _ _ _ _ (Nat.le_max_left _ _) h1]
  simp only
  exact zrun_le q.1 n2 (max n1 n2) _ _ _ _ _ _ _ (Nat.le_max_right _ _) h2
theorem zinh_cls {q : ZQ} {M : ZI} {c a k : Nat} (ho : zOb c a) (hc : c < 10) : zinh (M, q.2.1, zHc ++ q.2.2) k (.ref a) = none := by
  unfold zinh
  simp only [zL_app (X := q.2.2) ho.2]
  rw [if_pos ho.1, if_neg (show ¬ c + 3 = zSBC + 3 by unfold zSBC; omega)]
theorem zX_leaf {α : Type} {q : ZQ} {d y pc : Nat} {ls : List Slot} {st : List Value} {M : ZI} {E : α → Option Value → ZI → Prop} {a : α} (h : ∀ r M', E a r M' → zEnds q d y pc ls st M r M') : zX q d y pc ls st M (some a) E := by
  intro b hb r M' he
  cases hb
  exact h r M' he
theorem zX_bind {α β σ : Type} {q : ZQ} {d y pc pj : Nat} {ls : List Slot} {st : List Value} {M : ZI} {E : α → Option Value → ZI → Prop} {o1 : Option β} {f : β → Option α} {lj : β → σ → List Slot} {sj : β → List Value} {mj : β → ZI} (h1 : zX q d y pc ls st M o1 (zEj q d y pj lj sj mj)) (h2 : ∀ b s, zX q d y pj (lj b s) (sj b) (mj b) (f b) E) : zX q d y pc ls st M (o1.bind f) E := by
  intro a ha r M' he
  cases o1 with
  | none => cases ha
  | some b => exact h1 b rfl r M' (fun s => h2 b s a ha r M' he)
theorem zX_none {α : Type} {q : ZQ} {d y pc : Nat} {ls : List Slot} {st : List Value} {M : ZI} {E : α → Option Value → ZI → Prop} : zX q d y pc ls st M (none : Option α) E := fun _ h => nomatch h
theorem zX_ite {α : Type} {q : ZQ} {d y pc : Nat} {ls : List Slot} {st : List Value} {M : ZI} {E : α → Option Value → ZI → Prop} {c : Prop} [Decidable c] {o1 o2 : Option α} (h1 : c → zX q d y pc ls st M o1 E) (h2 : ¬ c → zX q d y pc ls st M o2 E) : zX q d y pc ls st M (if c then o1 else o2) E := by
  split
  · exact h1 ‹_›
  · exact h2 ‹_›
theorem zX_grd {α : Type} {q : ZQ} {d y pc : Nat} {ls : List Slot} {st : List Value} {M : ZI} {E : α → Option Value → ZI → Prop} {c : Prop} [Decidable c] {o1 : Option α} (h1 : c → zX q d y pc ls st M o1 E) : zX q d y pc ls st M (if c then o1 else none) E := zX_ite h1 (fun _ => zX_none)
theorem zX_let {α γ : Type} {q : ZQ} {d y pc : Nat} {ls : List Slot} {st : List Value} {M : ZI} {E : α → Option Value → ZI → Prop} {g : γ} {f : γ → Option α} (h : zX q d y pc ls st M (f g) E) : zX q d y pc ls st M (zlet g f) E := h

theorem zX_il0 {α : Type} {q : ZQ} {d y pc p : Nat} {M : ZI} {o : Option α} {E : α → Option Value → ZI → Prop} {st : List Value} {tl : List Slot} {x : Int32} (hd : zdec y pc = some (.iload 0, 2)) (hp : pc + 2 = p) (h : zX q d y p (.val (.int x) :: tl) (.int x :: st) M o E) : zX q d y pc (.val (.int x) :: tl) st M o E := by
  subst hp; exact zX_step hd (by first | rfl | simp [zstep, zld]) h
theorem zX_iln0 {α : Type} {q : ZQ} {d y pc p : Nat} {M : ZI} {o : Option α} {E : α → Option Value → ZI → Prop} {st : List Value} {tl : List Slot} {x : Int32} (hd : zdec y pc = some (.iload_n 0, 1)) (hp : pc + 1 = p) (h : zX q d y p (.val (.int x) :: tl) (.int x :: st) M o E) : zX q d y pc (.val (.int x) :: tl) st M o E := by
  subst hp; exact zX_step hd (by first | rfl | simp [zstep, zld]) h
theorem zX_al0 {α : Type} {q : ZQ} {d y pc p : Nat} {M : ZI} {o : Option α} {E : α → Option Value → ZI → Prop} {st : List Value} {tl : List Slot} {x : Nat} (hd : zdec y pc = some (.aload 0, 2)) (hp : pc + 2 = p) (h : zX q d y p (.val (.ref x) :: tl) (.ref x :: st) M o E) : zX q d y pc (.val (.ref x) :: tl) st M o E := by
  subst hp; exact zX_step hd (by first | rfl | simp [zstep, zld]) h
theorem zX_an0 {α : Type} {q : ZQ} {d y pc p : Nat} {M : ZI} {o : Option α} {E : α → Option Value → ZI → Prop} {st : List Value} {tl : List Slot} (hd : zdec y pc = some (.aload 0, 2)) (hp : pc + 2 = p) (h : zX q d y p (.val .null :: tl) (.null :: st) M o E) : zX q d y pc (.val .null :: tl) st M o E := by
  subst hp; exact zX_step hd (by first | rfl | simp [zstep, zld]) h
theorem zX_aln0 {α : Type} {q : ZQ} {d y pc p : Nat} {M : ZI} {o : Option α} {E : α → Option Value → ZI → Prop} {st : List Value} {tl : List Slot} {x : Nat} (hd : zdec y pc = some (.aload_n 0, 1)) (hp : pc + 1 = p) (h : zX q d y p (.val (.ref x) :: tl) (.ref x :: st) M o E) : zX q d y pc (.val (.ref x) :: tl) st M o E := by
  subst hp; exact zX_step hd (by first | rfl | simp [zstep, zld]) h
theorem zX_ann0 {α : Type} {q : ZQ} {d y pc p : Nat} {M : ZI} {o : Option α} {E : α → Option Value → ZI → Prop} {st : List Value} {tl : List Slot} (hd : zdec y pc = some (.aload_n 0, 1)) (hp : pc + 1 = p) (h : zX q d y p (.val .null :: tl) (.null :: st) M o E) : zX q d y pc (.val .null :: tl) st M o E := by
  subst hp; exact zX_step hd (by first | rfl | simp [zstep, zld]) h
theorem zX_is0 {α : Type} {q : ZQ} {d y pc p : Nat} {M : ZI} {o : Option α} {E : α → Option Value → ZI → Prop} {st : List Value} {tl : List Slot} {w : Slot} {x : Int32} (hd : zdec y pc = some (.istore 0, 2)) (hp : pc + 2 = p) (h : zX q d y p (.val (.int x) :: tl) st M o E) : zX q d y pc (w :: tl) (.int x :: st) M o E := by
  subst hp; exact zX_step hd (by first | rfl | simp [zstep, zst]) h
theorem zX_js0 {α : Type} {q : ZQ} {d y pc p : Nat} {M : ZI} {E : α → Option Value → ZI → Prop} {f : Int32 → Option α} {st : List Value} {tl : List Slot} {w : Slot} {x : Int32} (hd : zdec y pc = some (.istore 0, 2)) (hp : pc + 2 = p) (h : ∀ x, zX q d y p (.val (.int x) :: tl) st M (f x) E) : zX q d y pc (w :: tl) (.int x :: st) M (zlet x f) E := by
  subst hp; exact zX_step hd (by first | rfl | simp [zstep, zst]) (h x)
theorem zX_isn0 {α : Type} {q : ZQ} {d y pc p : Nat} {M : ZI} {o : Option α} {E : α → Option Value → ZI → Prop} {st : List Value} {tl : List Slot} {w : Slot} {x : Int32} (hd : zdec y pc = some (.istore_n 0, 1)) (hp : pc + 1 = p) (h : zX q d y p (.val (.int x) :: tl) st M o E) : zX q d y pc (w :: tl) (.int x :: st) M o E := by
  subst hp; exact zX_step hd (by first | rfl | simp [zstep, zst]) h
theorem zX_jsn0 {α : Type} {q : ZQ} {d y pc p : Nat} {M : ZI} {E : α → Option Value → ZI → Prop} {f : Int32 → Option α} {st : List Value} {tl : List Slot} {w : Slot} {x : Int32} (hd : zdec y pc = some (.istore_n 0, 1)) (hp : pc + 1 = p) (h : ∀ x, zX q d y p (.val (.int x) :: tl) st M (f x) E) : zX q d y pc (w :: tl) (.int x :: st) M (zlet x f) E := by
  subst hp; exact zX_step hd (by first | rfl | simp [zstep, zst]) (h x)
theorem zX_as0 {α : Type} {q : ZQ} {d y pc p : Nat} {M : ZI} {o : Option α} {E : α → Option Value → ZI → Prop} {st : List Value} {tl : List Slot} {w : Slot} {x : Nat} (hd : zdec y pc = some (.astore 0, 2)) (hp : pc + 2 = p) (h : zX q d y p (.val (.ref x) :: tl) st M o E) : zX q d y pc (w :: tl) (.ref x :: st) M o E := by
  subst hp; exact zX_step hd (by first | rfl | simp [zstep, zst]) h
theorem zX_asn0 {α : Type} {q : ZQ} {d y pc p : Nat} {M : ZI} {o : Option α} {E : α → Option Value → ZI → Prop} {st : List Value} {tl : List Slot} {w : Slot} {x : Nat} (hd : zdec y pc = some (.astore_n 0, 1)) (hp : pc + 1 = p) (h : zX q d y p (.val (.ref x) :: tl) st M o E) : zX q d y pc (w :: tl) (.ref x :: st) M o E := by
  subst hp; exact zX_step hd (by first | rfl | simp [zstep, zst]) h
theorem zX_ii0 {α : Type} {q : ZQ} {d y pc p : Nat} {M : ZI} {o : Option α} {E : α → Option Value → ZI → Prop} {st : List Value} {tl : List Slot} {x c : Int32} {n : Int} (hd : zdec y pc = some (.iinc 0 n, 3)) (hc : Int32.ofInt n = c) (hp : pc + 3 = p) (h : zX q d y p (.val (.int (x + c)) :: tl) st M o E) : zX q d y pc (.val (.int x) :: tl) st M o E := by
  subst hp; subst hc; exact zX_step hd (by simp [zstep]) h
theorem zX_il1 {α : Type} {q : ZQ} {d y pc p : Nat} {M : ZI} {o : Option α} {E : α → Option Value → ZI → Prop} {st : List Value} {s0 : Slot} {tl : List Slot} {x : Int32} (hd : zdec y pc = some (.iload 1, 2)) (hp : pc + 2 = p) (h : zX q d y p (s0 :: .val (.int x) :: tl) (.int x :: st) M o E) : zX q d y pc (s0 :: .val (.int x) :: tl) st M o E := by
  subst hp; exact zX_step hd (by first | rfl | simp [zstep, zld]) h
theorem zX_iln1 {α : Type} {q : ZQ} {d y pc p : Nat} {M : ZI} {o : Option α} {E : α → Option Value → ZI → Prop} {st : List Value} {s0 : Slot} {tl : List Slot} {x : Int32} (hd : zdec y pc = some (.iload_n 1, 1)) (hp : pc + 1 = p) (h : zX q d y p (s0 :: .val (.int x) :: tl) (.int x :: st) M o E) : zX q d y pc (s0 :: .val (.int x) :: tl) st M o E := by
  subst hp; exact zX_step hd (by first | rfl | simp [zstep, zld]) h
theorem zX_al1 {α : Type} {q : ZQ} {d y pc p : Nat} {M : ZI} {o : Option α} {E : α → Option Value → ZI → Prop} {st : List Value} {s0 : Slot} {tl : List Slot} {x : Nat} (hd : zdec y pc = some (.aload 1, 2)) (hp : pc + 2 = p) (h : zX q d y p (s0 :: .val (.ref x) :: tl) (.ref x :: st) M o E) : zX q d y pc (s0 :: .val (.ref x) :: tl) st M o E := by
  subst hp; exact zX_step hd (by first | rfl | simp [zstep, zld]) h
theorem zX_an1 {α : Type} {q : ZQ} {d y pc p : Nat} {M : ZI} {o : Option α} {E : α → Option Value → ZI → Prop} {st : List Value} {s0 : Slot} {tl : List Slot} (hd : zdec y pc = some (.aload 1, 2)) (hp : pc + 2 = p) (h : zX q d y p (s0 :: .val .null :: tl) (.null :: st) M o E) : zX q d y pc (s0 :: .val .null :: tl) st M o E := by
  subst hp; exact zX_step hd (by first | rfl | simp [zstep, zld]) h
theorem zX_aln1 {α : Type} {q : ZQ} {d y pc p : Nat} {M : ZI} {o : Option α} {E : α → Option Value → ZI → Prop} {st : List Value} {s0 : Slot} {tl : List Slot} {x : Nat} (hd : zdec y pc = some (.aload_n 1, 1)) (hp : pc + 1 = p) (h : zX q d y p (s0 :: .val (.ref x) :: tl) (.ref x :: st) M o E) : zX q d y pc (s0 :: .val (.ref x) :: tl) st M o E := by
  subst hp; exact zX_step hd (by first | rfl | simp [zstep, zld]) h
theorem zX_ann1 {α : Type} {q : ZQ} {d y pc p : Nat} {M : ZI} {o : Option α} {E : α → Option Value → ZI → Prop} {st : List Value} {s0 : Slot} {tl : List Slot} (hd : zdec y pc = some (.aload_n 1, 1)) (hp : pc + 1 = p) (h : zX q d y p (s0 :: .val .null :: tl) (.null :: st) M o E) : zX q d y pc (s0 :: .val .null :: tl) st M o E := by
  subst hp; exact zX_step hd (by first | rfl | simp [zstep, zld]) h
theorem zX_is1 {α : Type} {q : ZQ} {d y pc p : Nat} {M : ZI} {o : Option α} {E : α → Option Value → ZI → Prop} {st : List Value} {s0 : Slot} {tl : List Slot} {w : Slot} {x : Int32} (hd : zdec y pc = some (.istore 1, 2)) (hp : pc + 2 = p) (h : zX q d y p (s0 :: .val (.int x) :: tl) st M o E) : zX q d y pc (s0 :: w :: tl) (.int x :: st) M o E := by
  subst hp; exact zX_step hd (by first | rfl | simp [zstep, zst]) h
theorem zX_js1 {α : Type} {q : ZQ} {d y pc p : Nat} {M : ZI} {E : α → Option Value → ZI → Prop} {f : Int32 → Option α} {st : List Value} {s0 : Slot} {tl : List Slot} {w : Slot} {x : Int32} (hd : zdec y pc = some (.istore 1, 2)) (hp : pc + 2 = p) (h : ∀ x, zX q d y p (s0 :: .val (.int x) :: tl) st M (f x) E) : zX q d y pc (s0 :: w :: tl) (.int x :: st) M (zlet x f) E := by
  subst hp; exact zX_step hd (by first | rfl | simp [zstep, zst]) (h x)
theorem zX_isn1 {α : Type} {q : ZQ} {d y pc p : Nat} {M : ZI} {o : Option α} {E : α → Option Value → ZI → Prop} {st : List Value} {s0 : Slot} {tl : List Slot} {w : Slot} {x : Int32} (hd : zdec y pc = some (.istore_n 1, 1)) (hp : pc + 1 = p) (h : zX q d y p (s0 :: .val (.int x) :: tl) st M o E) : zX q d y pc (s0 :: w :: tl) (.int x :: st) M o E := by
  subst hp; exact zX_step hd (by first | rfl | simp [zstep, zst]) h
theorem zX_jsn1 {α : Type} {q : ZQ} {d y pc p : Nat} {M : ZI} {E : α → Option Value → ZI → Prop} {f : Int32 → Option α} {st : List Value} {s0 : Slot} {tl : List Slot} {w : Slot} {x : Int32} (hd : zdec y pc = some (.istore_n 1, 1)) (hp : pc + 1 = p) (h : ∀ x, zX q d y p (s0 :: .val (.int x) :: tl) st M (f x) E) : zX q d y pc (s0 :: w :: tl) (.int x :: st) M (zlet x f) E := by
  subst hp; exact zX_step hd (by first | rfl | simp [zstep, zst]) (h x)
theorem zX_as1 {α : Type} {q : ZQ} {d y pc p : Nat} {M : ZI} {o : Option α} {E : α → Option Value → ZI → Prop} {st : List Value} {s0 : Slot} {tl : List Slot} {w : Slot} {x : Nat} (hd : zdec y pc = some (.astore 1, 2)) (hp : pc + 2 = p) (h : zX q d y p (s0 :: .val (.ref x) :: tl) st M o E) : zX q d y pc (s0 :: w :: tl) (.ref x :: st) M o E := by
  subst hp; exact zX_step hd (by first | rfl | simp [zstep, zst]) h
theorem zX_asn1 {α : Type} {q : ZQ} {d y pc p : Nat} {M : ZI} {o : Option α} {E : α → Option Value → ZI → Prop} {st : List Value} {s0 : Slot} {tl : List Slot} {w : Slot} {x : Nat} (hd : zdec y pc = some (.astore_n 1, 1)) (hp : pc + 1 = p) (h : zX q d y p (s0 :: .val (.ref x) :: tl) st M o E) : zX q d y pc (s0 :: w :: tl) (.ref x :: st) M o E := by
  subst hp; exact zX_step hd (by first | rfl | simp [zstep, zst]) h
theorem zX_ii1 {α : Type} {q : ZQ} {d y pc p : Nat} {M : ZI} {o : Option α} {E : α → Option Value → ZI → Prop} {st : List Value} {s0 : Slot} {tl : List Slot} {x c : Int32} {n : Int} (hd : zdec y pc = some (.iinc 1 n, 3)) (hc : Int32.ofInt n = c) (hp : pc + 3 = p) (h : zX q d y p (s0 :: .val (.int (x + c)) :: tl) st M o E) : zX q d y pc (s0 :: .val (.int x) :: tl) st M o E := by
  subst hp; subst hc; exact zX_step hd (by simp [zstep]) h
theorem zX_il2 {α : Type} {q : ZQ} {d y pc p : Nat} {M : ZI} {o : Option α} {E : α → Option Value → ZI → Prop} {st : List Value} {s0 s1 : Slot} {tl : List Slot} {x : Int32} (hd : zdec y pc = some (.iload 2, 2)) (hp : pc + 2 = p) (h : zX q d y p (s0 :: s1 :: .val (.int x) :: tl) (.int x :: st) M o E) : zX q d y pc (s0 :: s1 :: .val (.int x) :: tl) st M o E := by
  subst hp; exact zX_step hd (by first | rfl | simp [zstep, zld]) h
theorem zX_iln2 {α : Type} {q : ZQ} {d y pc p : Nat} {M : ZI} {o : Option α} {E : α → Option Value → ZI → Prop} {st : List Value} {s0 s1 : Slot} {tl : List Slot} {x : Int32} (hd : zdec y pc = some (.iload_n 2, 1)) (hp : pc + 1 = p) (h : zX q d y p (s0 :: s1 :: .val (.int x) :: tl) (.int x :: st) M o E) : zX q d y pc (s0 :: s1 :: .val (.int x) :: tl) st M o E := by
  subst hp; exact zX_step hd (by first | rfl | simp [zstep, zld]) h
theorem zX_al2 {α : Type} {q : ZQ} {d y pc p : Nat} {M : ZI} {o : Option α} {E : α → Option Value → ZI → Prop} {st : List Value} {s0 s1 : Slot} {tl : List Slot} {x : Nat} (hd : zdec y pc = some (.aload 2, 2)) (hp : pc + 2 = p) (h : zX q d y p (s0 :: s1 :: .val (.ref x) :: tl) (.ref x :: st) M o E) : zX q d y pc (s0 :: s1 :: .val (.ref x) :: tl) st M o E := by
  subst hp; exact zX_step hd (by first | rfl | simp [zstep, zld]) h
theorem zX_an2 {α : Type} {q : ZQ} {d y pc p : Nat} {M : ZI} {o : Option α} {E : α → Option Value → ZI → Prop} {st : List Value} {s0 s1 : Slot} {tl : List Slot} (hd : zdec y pc = some (.aload 2, 2)) (hp : pc + 2 = p) (h : zX q d y p (s0 :: s1 :: .val .null :: tl) (.null :: st) M o E) : zX q d y pc (s0 :: s1 :: .val .null :: tl) st M o E := by
  subst hp; exact zX_step hd (by first | rfl | simp [zstep, zld]) h
theorem zX_aln2 {α : Type} {q : ZQ} {d y pc p : Nat} {M : ZI} {o : Option α} {E : α → Option Value → ZI → Prop} {st : List Value} {s0 s1 : Slot} {tl : List Slot} {x : Nat} (hd : zdec y pc = some (.aload_n 2, 1)) (hp : pc + 1 = p) (h : zX q d y p (s0 :: s1 :: .val (.ref x) :: tl) (.ref x :: st) M o E) : zX q d y pc (s0 :: s1 :: .val (.ref x) :: tl) st M o E := by
  subst hp; exact zX_step hd (by first | rfl | simp [zstep, zld]) h
theorem zX_ann2 {α : Type} {q : ZQ} {d y pc p : Nat} {M : ZI} {o : Option α} {E : α → Option Value → ZI → Prop} {st : List Value} {s0 s1 : Slot} {tl : List Slot} (hd : zdec y pc = some (.aload_n 2, 1)) (hp : pc + 1 = p) (h : zX q d y p (s0 :: s1 :: .val .null :: tl) (.null :: st) M o E) : zX q d y pc (s0 :: s1 :: .val .null :: tl) st M o E := by
  subst hp; exact zX_step hd (by first | rfl | simp [zstep, zld]) h
theorem zX_is2 {α : Type} {q : ZQ} {d y pc p : Nat} {M : ZI} {o : Option α} {E : α → Option Value → ZI → Prop} {st : List Value} {s0 s1 : Slot} {tl : List Slot} {w : Slot} {x : Int32} (hd : zdec y pc = some (.istore 2, 2)) (hp : pc + 2 = p) (h : zX q d y p (s0 :: s1 :: .val (.int x) :: tl) st M o E) : zX q d y pc (s0 :: s1 :: w :: tl) (.int x :: st) M o E := by
  subst hp; exact zX_step hd (by first | rfl | simp [zstep, zst]) h
theorem zX_js2 {α : Type} {q : ZQ} {d y pc p : Nat} {M : ZI} {E : α → Option Value → ZI → Prop} {f : Int32 → Option α} {st : List Value} {s0 s1 : Slot} {tl : List Slot} {w : Slot} {x : Int32} (hd : zdec y pc = some (.istore 2, 2)) (hp : pc + 2 = p) (h : ∀ x, zX q d y p (s0 :: s1 :: .val (.int x) :: tl) st M (f x) E) : zX q d y pc (s0 :: s1 :: w :: tl) (.int x :: st) M (zlet x f) E := by
  subst hp; exact zX_step hd (by first | rfl | simp [zstep, zst]) (h x)
theorem zX_isn2 {α : Type} {q : ZQ} {d y pc p : Nat} {M : ZI} {o : Option α} {E : α → Option Value → ZI → Prop} {st : List Value} {s0 s1 : Slot} {tl : List Slot} {w : Slot} {x : Int32} (hd : zdec y pc = some (.istore_n 2, 1)) (hp : pc + 1 = p) (h : zX q d y p (s0 :: s1 :: .val (.int x) :: tl) st M o E) : zX q d y pc (s0 :: s1 :: w :: tl) (.int x :: st) M o E := by
  subst hp; exact zX_step hd (by first | rfl | simp [zstep, zst]) h
theorem zX_jsn2 {α : Type} {q : ZQ} {d y pc p : Nat} {M : ZI} {E : α → Option Value → ZI → Prop} {f : Int32 → Option α} {st : List Value} {s0 s1 : Slot} {tl : List Slot} {w : Slot} {x : Int32} (hd : zdec y pc = some (.istore_n 2, 1)) (hp : pc + 1 = p) (h : ∀ x, zX q d y p (s0 :: s1 :: .val (.int x) :: tl) st M (f x) E) : zX q d y pc (s0 :: s1 :: w :: tl) (.int x :: st) M (zlet x f) E := by
  subst hp; exact zX_step hd (by first | rfl | simp [zstep, zst]) (h x)
theorem zX_as2 {α : Type} {q : ZQ} {d y pc p : Nat} {M : ZI} {o : Option α} {E : α → Option Value → ZI → Prop} {st : List Value} {s0 s1 : Slot} {tl : List Slot} {w : Slot} {x : Nat} (hd : zdec y pc = some (.astore 2, 2)) (hp : pc + 2 = p) (h : zX q d y p (s0 :: s1 :: .val (.ref x) :: tl) st M o E) : zX q d y pc (s0 :: s1 :: w :: tl) (.ref x :: st) M o E := by
  subst hp; exact zX_step hd (by first | rfl | simp [zstep, zst]) h
theorem zX_asn2 {α : Type} {q : ZQ} {d y pc p : Nat} {M : ZI} {o : Option α} {E : α → Option Value → ZI → Prop} {st : List Value} {s0 s1 : Slot} {tl : List Slot} {w : Slot} {x : Nat} (hd : zdec y pc = some (.astore_n 2, 1)) (hp : pc + 1 = p) (h : zX q d y p (s0 :: s1 :: .val (.ref x) :: tl) st M o E) : zX q d y pc (s0 :: s1 :: w :: tl) (.ref x :: st) M o E := by
  subst hp; exact zX_step hd (by first | rfl | simp [zstep, zst]) h
theorem zX_ii2 {α : Type} {q : ZQ} {d y pc p : Nat} {M : ZI} {o : Option α} {E : α → Option Value → ZI → Prop} {st : List Value} {s0 s1 : Slot} {tl : List Slot} {x c : Int32} {n : Int} (hd : zdec y pc = some (.iinc 2 n, 3)) (hc : Int32.ofInt n = c) (hp : pc + 3 = p) (h : zX q d y p (s0 :: s1 :: .val (.int (x + c)) :: tl) st M o E) : zX q d y pc (s0 :: s1 :: .val (.int x) :: tl) st M o E := by
  subst hp; subst hc; exact zX_step hd (by simp [zstep]) h
theorem zX_il3 {α : Type} {q : ZQ} {d y pc p : Nat} {M : ZI} {o : Option α} {E : α → Option Value → ZI → Prop} {st : List Value} {s0 s1 s2 : Slot} {tl : List Slot} {x : Int32} (hd : zdec y pc = some (.iload 3, 2)) (hp : pc + 2 = p) (h : zX q d y p (s0 :: s1 :: s2 :: .val (.int x) :: tl) (.int x :: st) M o E) : zX q d y pc (s0 :: s1 :: s2 :: .val (.int x) :: tl) st M o E := by
  subst hp; exact zX_step hd (by first | rfl | simp [zstep, zld]) h
theorem zX_iln3 {α : Type} {q : ZQ} {d y pc p : Nat} {M : ZI} {o : Option α} {E : α → Option Value → ZI → Prop} {st : List Value} {s0 s1 s2 : Slot} {tl : List Slot} {x : Int32} (hd : zdec y pc = some (.iload_n 3, 1)) (hp : pc + 1 = p) (h : zX q d y p (s0 :: s1 :: s2 :: .val (.int x) :: tl) (.int x :: st) M o E) : zX q d y pc (s0 :: s1 :: s2 :: .val (.int x) :: tl) st M o E := by
  subst hp; exact zX_step hd (by first | rfl | simp [zstep, zld]) h
theorem zX_al3 {α : Type} {q : ZQ} {d y pc p : Nat} {M : ZI} {o : Option α} {E : α → Option Value → ZI → Prop} {st : List Value} {s0 s1 s2 : Slot} {tl : List Slot} {x : Nat} (hd : zdec y pc = some (.aload 3, 2)) (hp : pc + 2 = p) (h : zX q d y p (s0 :: s1 :: s2 :: .val (.ref x) :: tl) (.ref x :: st) M o E) : zX q d y pc (s0 :: s1 :: s2 :: .val (.ref x) :: tl) st M o E := by
  subst hp; exact zX_step hd (by first | rfl | simp [zstep, zld]) h
theorem zX_an3 {α : Type} {q : ZQ} {d y pc p : Nat} {M : ZI} {o : Option α} {E : α → Option Value → ZI → Prop} {st : List Value} {s0 s1 s2 : Slot} {tl : List Slot} (hd : zdec y pc = some (.aload 3, 2)) (hp : pc + 2 = p) (h : zX q d y p (s0 :: s1 :: s2 :: .val .null :: tl) (.null :: st) M o E) : zX q d y pc (s0 :: s1 :: s2 :: .val .null :: tl) st M o E := by
  subst hp; exact zX_step hd (by first | rfl | simp [zstep, zld]) h
theorem zX_aln3 {α : Type} {q : ZQ} {d y pc p : Nat} {M : ZI} {o : Option α} {E : α → Option Value → ZI → Prop} {st : List Value} {s0 s1 s2 : Slot} {tl : List Slot} {x : Nat} (hd : zdec y pc = some (.aload_n 3, 1)) (hp : pc + 1 = p) (h : zX q d y p (s0 :: s1 :: s2 :: .val (.ref x) :: tl) (.ref x :: st) M o E) : zX q d y pc (s0 :: s1 :: s2 :: .val (.ref x) :: tl) st M o E := by
  subst hp; exact zX_step hd (by first | rfl | simp [zstep, zld]) h
theorem zX_ann3 {α : Type} {q : ZQ} {d y pc p : Nat} {M : ZI} {o : Option α} {E : α → Option Value → ZI → Prop} {st : List Value} {s0 s1 s2 : Slot} {tl : List Slot} (hd : zdec y pc = some (.aload_n 3, 1)) (hp : pc + 1 = p) (h : zX q d y p (s0 :: s1 :: s2 :: .val .null :: tl) (.null :: st) M o E) : zX q d y pc (s0 :: s1 :: s2 :: .val .null :: tl) st M o E := by
  subst hp; exact zX_step hd (by first | rfl | simp [zstep, zld]) h
theorem zX_is3 {α : Type} {q : ZQ} {d y pc p : Nat} {M : ZI} {o : Option α} {E : α → Option Value → ZI → Prop} {st : List Value} {s0 s1 s2 : Slot} {tl : List Slot} {w : Slot} {x : Int32} (hd : zdec y pc = some (.istore 3, 2)) (hp : pc + 2 = p) (h : zX q d y p (s0 :: s1 :: s2 :: .val (.int x) :: tl) st M o E) : zX q d y pc (s0 :: s1 :: s2 :: w :: tl) (.int x :: st) M o E := by
  subst hp; exact zX_step hd (by first | rfl | simp [zstep, zst]) h
theorem zX_js3 {α : Type} {q : ZQ} {d y pc p : Nat} {M : ZI} {E : α → Option Value → ZI → Prop} {f : Int32 → Option α} {st : List Value} {s0 s1 s2 : Slot} {tl : List Slot} {w : Slot} {x : Int32} (hd : zdec y pc = some (.istore 3, 2)) (hp : pc + 2 = p) (h : ∀ x, zX q d y p (s0 :: s1 :: s2 :: .val (.int x) :: tl) st M (f x) E) : zX q d y pc (s0 :: s1 :: s2 :: w :: tl) (.int x :: st) M (zlet x f) E := by
  subst hp; exact zX_step hd (by first | rfl | simp [zstep, zst]) (h x)
theorem zX_isn3 {α : Type} {q : ZQ} {d y pc p : Nat} {M : ZI} {o : Option α} {E : α → Option Value → ZI → Prop} {st : List Value} {s0 s1 s2 : Slot} {tl : List Slot} {w : Slot} {x : Int32} (hd : zdec y pc = some (.istore_n 3, 1)) (hp : pc + 1 = p) (h : zX q d y p (s0 :: s1 :: s2 :: .val (.int x) :: tl) st M o E) : zX q d y pc (s0 :: s1 :: s2 :: w :: tl) (.int x :: st) M o E := by
  subst hp; exact zX_step hd (by first | rfl | simp [zstep, zst]) h
theorem zX_jsn3 {α : Type} {q : ZQ} {d y pc p : Nat} {M : ZI} {E : α → Option Value → ZI → Prop} {f : Int32 → Option α} {st : List Value} {s0 s1 s2 : Slot} {tl : List Slot} {w : Slot} {x : Int32} (hd : zdec y pc = some (.istore_n 3, 1)) (hp : pc + 1 = p) (h : ∀ x, zX q d y p (s0 :: s1 :: s2 :: .val (.int x) :: tl) st M (f x) E) : zX q d y pc (s0 :: s1 :: s2 :: w :: tl) (.int x :: st) M (zlet x f) E := by
  subst hp; exact zX_step hd (by first | rfl | simp [zstep, zst]) (h x)
theorem zX_as3 {α : Type} {q : ZQ} {d y pc p : Nat} {M : ZI} {o : Option α} {E : α → Option Value → ZI → Prop} {st : List Value} {s0 s1 s2 : Slot} {tl : List Slot} {w : Slot} {x : Nat} (hd : zdec y pc = some (.astore 3, 2)) (hp : pc + 2 = p) (h : zX q d y p (s0 :: s1 :: s2 :: .val (.ref x) :: tl) st M o E) : zX q d y pc (s0 :: s1 :: s2 :: w :: tl) (.ref x :: st) M o E := by
  subst hp; exact zX_step hd (by first | rfl | simp [zstep, zst]) h
theorem zX_asn3 {α : Type} {q : ZQ} {d y pc p : Nat} {M : ZI} {o : Option α} {E : α → Option Value → ZI → Prop} {st : List Value} {s0 s1 s2 : Slot} {tl : List Slot} {w : Slot} {x : Nat} (hd : zdec y pc = some (.astore_n 3, 1)) (hp : pc + 1 = p) (h : zX q d y p (s0 :: s1 :: s2 :: .val (.ref x) :: tl) st M o E) : zX q d y pc (s0 :: s1 :: s2 :: w :: tl) (.ref x :: st) M o E := by
  subst hp; exact zX_step hd (by first | rfl | simp [zstep, zst]) h
theorem zX_ii3 {α : Type} {q : ZQ} {d y pc p : Nat} {M : ZI} {o : Option α} {E : α → Option Value → ZI → Prop} {st : List Value} {s0 s1 s2 : Slot} {tl : List Slot} {x c : Int32} {n : Int} (hd : zdec y pc = some (.iinc 3 n, 3)) (hc : Int32.ofInt n = c) (hp : pc + 3 = p) (h : zX q d y p (s0 :: s1 :: s2 :: .val (.int (x + c)) :: tl) st M o E) : zX q d y pc (s0 :: s1 :: s2 :: .val (.int x) :: tl) st M o E := by
  subst hp; subst hc; exact zX_step hd (by simp [zstep]) h
theorem zX_il4 {α : Type} {q : ZQ} {d y pc p : Nat} {M : ZI} {o : Option α} {E : α → Option Value → ZI → Prop} {st : List Value} {s0 s1 s2 s3 : Slot} {tl : List Slot} {x : Int32} (hd : zdec y pc = some (.iload 4, 2)) (hp : pc + 2 = p) (h : zX q d y p (s0 :: s1 :: s2 :: s3 :: .val (.int x) :: tl) (.int x :: st) M o E) : zX q d y pc (s0 :: s1 :: s2 :: s3 :: .val (.int x) :: tl) st M o E := by
  subst hp; exact zX_step hd (by first | rfl | simp [zstep, zld]) h
theorem zX_al4 {α : Type} {q : ZQ} {d y pc p : Nat} {M : ZI} {o : Option α} {E : α → Option Value → ZI → Prop} {st : List Value} {s0 s1 s2 s3 : Slot} {tl : List Slot} {x : Nat} (hd : zdec y pc = some (.aload 4, 2)) (hp : pc + 2 = p) (h : zX q d y p (s0 :: s1 :: s2 :: s3 :: .val (.ref x) :: tl) (.ref x :: st) M o E) : zX q d y pc (s0 :: s1 :: s2 :: s3 :: .val (.ref x) :: tl) st M o E := by
  subst hp; exact zX_step hd (by first | rfl | simp [zstep, zld]) h
theorem zX_an4 {α : Type} {q : ZQ} {d y pc p : Nat} {M : ZI} {o : Option α} {E : α → Option Value → ZI → Prop} {st : List Value} {s0 s1 s2 s3 : Slot} {tl : List Slot} (hd : zdec y pc = some (.aload 4, 2)) (hp : pc + 2 = p) (h : zX q d y p (s0 :: s1 :: s2 :: s3 :: .val .null :: tl) (.null :: st) M o E) : zX q d y pc (s0 :: s1 :: s2 :: s3 :: .val .null :: tl) st M o E := by
  subst hp; exact zX_step hd (by first | rfl | simp [zstep, zld]) h
theorem zX_is4 {α : Type} {q : ZQ} {d y pc p : Nat} {M : ZI} {o : Option α} {E : α → Option Value → ZI → Prop} {st : List Value} {s0 s1 s2 s3 : Slot} {tl : List Slot} {w : Slot} {x : Int32} (hd : zdec y pc = some (.istore 4, 2)) (hp : pc + 2 = p) (h : zX q d y p (s0 :: s1 :: s2 :: s3 :: .val (.int x) :: tl) st M o E) : zX q d y pc (s0 :: s1 :: s2 :: s3 :: w :: tl) (.int x :: st) M o E := by
  subst hp; exact zX_step hd (by first | rfl | simp [zstep, zst]) h
theorem zX_js4 {α : Type} {q : ZQ} {d y pc p : Nat} {M : ZI} {E : α → Option Value → ZI → Prop} {f : Int32 → Option α} {st : List Value} {s0 s1 s2 s3 : Slot} {tl : List Slot} {w : Slot} {x : Int32} (hd : zdec y pc = some (.istore 4, 2)) (hp : pc + 2 = p) (h : ∀ x, zX q d y p (s0 :: s1 :: s2 :: s3 :: .val (.int x) :: tl) st M (f x) E) : zX q d y pc (s0 :: s1 :: s2 :: s3 :: w :: tl) (.int x :: st) M (zlet x f) E := by
  subst hp; exact zX_step hd (by first | rfl | simp [zstep, zst]) (h x)
theorem zX_as4 {α : Type} {q : ZQ} {d y pc p : Nat} {M : ZI} {o : Option α} {E : α → Option Value → ZI → Prop} {st : List Value} {s0 s1 s2 s3 : Slot} {tl : List Slot} {w : Slot} {x : Nat} (hd : zdec y pc = some (.astore 4, 2)) (hp : pc + 2 = p) (h : zX q d y p (s0 :: s1 :: s2 :: s3 :: .val (.ref x) :: tl) st M o E) : zX q d y pc (s0 :: s1 :: s2 :: s3 :: w :: tl) (.ref x :: st) M o E := by
  subst hp; exact zX_step hd (by first | rfl | simp [zstep, zst]) h
theorem zX_ii4 {α : Type} {q : ZQ} {d y pc p : Nat} {M : ZI} {o : Option α} {E : α → Option Value → ZI → Prop} {st : List Value} {s0 s1 s2 s3 : Slot} {tl : List Slot} {x c : Int32} {n : Int} (hd : zdec y pc = some (.iinc 4 n, 3)) (hc : Int32.ofInt n = c) (hp : pc + 3 = p) (h : zX q d y p (s0 :: s1 :: s2 :: s3 :: .val (.int (x + c)) :: tl) st M o E) : zX q d y pc (s0 :: s1 :: s2 :: s3 :: .val (.int x) :: tl) st M o E := by
  subst hp; subst hc; exact zX_step hd (by simp [zstep]) h
theorem zX_il5 {α : Type} {q : ZQ} {d y pc p : Nat} {M : ZI} {o : Option α} {E : α → Option Value → ZI → Prop} {st : List Value} {s0 s1 s2 s3 s4 : Slot} {tl : List Slot} {x : Int32} (hd : zdec y pc = some (.iload 5, 2)) (hp : pc + 2 = p) (h : zX q d y p (s0 :: s1 :: s2 :: s3 :: s4 :: .val (.int x) :: tl) (.int x :: st) M o E) : zX q d y pc (s0 :: s1 :: s2 :: s3 :: s4 :: .val (.int x) :: tl) st M o E := by
  subst hp; exact zX_step hd (by first | rfl | simp [zstep, zld]) h
theorem zX_al5 {α : Type} {q : ZQ} {d y pc p : Nat} {M : ZI} {o : Option α} {E : α → Option Value → ZI → Prop} {st : List Value} {s0 s1 s2 s3 s4 : Slot} {tl : List Slot} {x : Nat} (hd : zdec y pc = some (.aload 5, 2)) (hp : pc + 2 = p) (h : zX q d y p (s0 :: s1 :: s2 :: s3 :: s4 :: .val (.ref x) :: tl) (.ref x :: st) M o E) : zX q d y pc (s0 :: s1 :: s2 :: s3 :: s4 :: .val (.ref x) :: tl) st M o E := by
  subst hp; exact zX_step hd (by first | rfl | simp [zstep, zld]) h
theorem zX_an5 {α : Type} {q : ZQ} {d y pc p : Nat} {M : ZI} {o : Option α} {E : α → Option Value → ZI → Prop} {st : List Value} {s0 s1 s2 s3 s4 : Slot} {tl : List Slot} (hd : zdec y pc = some (.aload 5, 2)) (hp : pc + 2 = p) (h : zX q d y p (s0 :: s1 :: s2 :: s3 :: s4 :: .val .null :: tl) (.null :: st) M o E) : zX q d y pc (s0 :: s1 :: s2 :: s3 :: s4 :: .val .null :: tl) st M o E := by
  subst hp; exact zX_step hd (by first | rfl | simp [zstep, zld]) h
theorem zX_is5 {α : Type} {q : ZQ} {d y pc p : Nat} {M : ZI} {o : Option α} {E : α → Option Value → ZI → Prop} {st : List Value} {s0 s1 s2 s3 s4 : Slot} {tl : List Slot} {w : Slot} {x : Int32} (hd : zdec y pc = some (.istore 5, 2)) (hp : pc + 2 = p) (h : zX q d y p (s0 :: s1 :: s2 :: s3 :: s4 :: .val (.int x) :: tl) st M o E) : zX q d y pc (s0 :: s1 :: s2 :: s3 :: s4 :: w :: tl) (.int x :: st) M o E := by
  subst hp; exact zX_step hd (by first | rfl | simp [zstep, zst]) h
theorem zX_js5 {α : Type} {q : ZQ} {d y pc p : Nat} {M : ZI} {E : α → Option Value → ZI → Prop} {f : Int32 → Option α} {st : List Value} {s0 s1 s2 s3 s4 : Slot} {tl : List Slot} {w : Slot} {x : Int32} (hd : zdec y pc = some (.istore 5, 2)) (hp : pc + 2 = p) (h : ∀ x, zX q d y p (s0 :: s1 :: s2 :: s3 :: s4 :: .val (.int x) :: tl) st M (f x) E) : zX q d y pc (s0 :: s1 :: s2 :: s3 :: s4 :: w :: tl) (.int x :: st) M (zlet x f) E := by
  subst hp; exact zX_step hd (by first | rfl | simp [zstep, zst]) (h x)
theorem zX_as5 {α : Type} {q : ZQ} {d y pc p : Nat} {M : ZI} {o : Option α} {E : α → Option Value → ZI → Prop} {st : List Value} {s0 s1 s2 s3 s4 : Slot} {tl : List Slot} {w : Slot} {x : Nat} (hd : zdec y pc = some (.astore 5, 2)) (hp : pc + 2 = p) (h : zX q d y p (s0 :: s1 :: s2 :: s3 :: s4 :: .val (.ref x) :: tl) st M o E) : zX q d y pc (s0 :: s1 :: s2 :: s3 :: s4 :: w :: tl) (.ref x :: st) M o E := by
  subst hp; exact zX_step hd (by first | rfl | simp [zstep, zst]) h
theorem zX_ii5 {α : Type} {q : ZQ} {d y pc p : Nat} {M : ZI} {o : Option α} {E : α → Option Value → ZI → Prop} {st : List Value} {s0 s1 s2 s3 s4 : Slot} {tl : List Slot} {x c : Int32} {n : Int} (hd : zdec y pc = some (.iinc 5 n, 3)) (hc : Int32.ofInt n = c) (hp : pc + 3 = p) (h : zX q d y p (s0 :: s1 :: s2 :: s3 :: s4 :: .val (.int (x + c)) :: tl) st M o E) : zX q d y pc (s0 :: s1 :: s2 :: s3 :: s4 :: .val (.int x) :: tl) st M o E := by
  subst hp; subst hc; exact zX_step hd (by simp [zstep]) h
theorem zX_il6 {α : Type} {q : ZQ} {d y pc p : Nat} {M : ZI} {o : Option α} {E : α → Option Value → ZI → Prop} {st : List Value} {s0 s1 s2 s3 s4 s5 : Slot} {tl : List Slot} {x : Int32} (hd : zdec y pc = some (.iload 6, 2)) (hp : pc + 2 = p) (h : zX q d y p (s0 :: s1 :: s2 :: s3 :: s4 :: s5 :: .val (.int x) :: tl) (.int x :: st) M o E) : zX q d y pc (s0 :: s1 :: s2 :: s3 :: s4 :: s5 :: .val (.int x) :: tl) st M o E := by
  subst hp; exact zX_step hd (by first | rfl | simp [zstep, zld]) h
theorem zX_al6 {α : Type} {q : ZQ} {d y pc p : Nat} {M : ZI} {o : Option α} {E : α → Option Value → ZI → Prop} {st : List Value} {s0 s1 s2 s3 s4 s5 : Slot} {tl : List Slot} {x : Nat} (hd : zdec y pc = some (.aload 6, 2)) (hp : pc + 2 = p) (h : zX q d y p (s0 :: s1 :: s2 :: s3 :: s4 :: s5 :: .val (.ref x) :: tl) (.ref x :: st) M o E) : zX q d y pc (s0 :: s1 :: s2 :: s3 :: s4 :: s5 :: .val (.ref x) :: tl) st M o E := by
  subst hp; exact zX_step hd (by first | rfl | simp [zstep, zld]) h
theorem zX_an6 {α : Type} {q : ZQ} {d y pc p : Nat} {M : ZI} {o : Option α} {E : α → Option Value → ZI → Prop} {st : List Value} {s0 s1 s2 s3 s4 s5 : Slot} {tl : List Slot} (hd : zdec y pc = some (.aload 6, 2)) (hp : pc + 2 = p) (h : zX q d y p (s0 :: s1 :: s2 :: s3 :: s4 :: s5 :: .val .null :: tl) (.null :: st) M o E) : zX q d y pc (s0 :: s1 :: s2 :: s3 :: s4 :: s5 :: .val .null :: tl) st M o E := by
  subst hp; exact zX_step hd (by first | rfl | simp [zstep, zld]) h
theorem zX_is6 {α : Type} {q : ZQ} {d y pc p : Nat} {M : ZI} {o : Option α} {E : α → Option Value → ZI → Prop} {st : List Value} {s0 s1 s2 s3 s4 s5 : Slot} {tl : List Slot} {w : Slot} {x : Int32} (hd : zdec y pc = some (.istore 6, 2)) (hp : pc + 2 = p) (h : zX q d y p (s0 :: s1 :: s2 :: s3 :: s4 :: s5 :: .val (.int x) :: tl) st M o E) : zX q d y pc (s0 :: s1 :: s2 :: s3 :: s4 :: s5 :: w :: tl) (.int x :: st) M o E := by
  subst hp; exact zX_step hd (by first | rfl | simp [zstep, zst]) h
theorem zX_js6 {α : Type} {q : ZQ} {d y pc p : Nat} {M : ZI} {E : α → Option Value → ZI → Prop} {f : Int32 → Option α} {st : List Value} {s0 s1 s2 s3 s4 s5 : Slot} {tl : List Slot} {w : Slot} {x : Int32} (hd : zdec y pc = some (.istore 6, 2)) (hp : pc + 2 = p) (h : ∀ x, zX q d y p (s0 :: s1 :: s2 :: s3 :: s4 :: s5 :: .val (.int x) :: tl) st M (f x) E) : zX q d y pc (s0 :: s1 :: s2 :: s3 :: s4 :: s5 :: w :: tl) (.int x :: st) M (zlet x f) E := by
  subst hp; exact zX_step hd (by first | rfl | simp [zstep, zst]) (h x)
theorem zX_as6 {α : Type} {q : ZQ} {d y pc p : Nat} {M : ZI} {o : Option α} {E : α → Option Value → ZI → Prop} {st : List Value} {s0 s1 s2 s3 s4 s5 : Slot} {tl : List Slot} {w : Slot} {x : Nat} (hd : zdec y pc = some (.astore 6, 2)) (hp : pc + 2 = p) (h : zX q d y p (s0 :: s1 :: s2 :: s3 :: s4 :: s5 :: .val (.ref x) :: tl) st M o E) : zX q d y pc (s0 :: s1 :: s2 :: s3 :: s4 :: s5 :: w :: tl) (.ref x :: st) M o E := by
  subst hp; exact zX_step hd (by first | rfl | simp [zstep, zst]) h
theorem zX_ii6 {α : Type} {q : ZQ} {d y pc p : Nat} {M : ZI} {o : Option α} {E : α → Option Value → ZI → Prop} {st : List Value} {s0 s1 s2 s3 s4 s5 : Slot} {tl : List Slot} {x c : Int32} {n : Int} (hd : zdec y pc = some (.iinc 6 n, 3)) (hc : Int32.ofInt n = c) (hp : pc + 3 = p) (h : zX q d y p (s0 :: s1 :: s2 :: s3 :: s4 :: s5 :: .val (.int (x + c)) :: tl) st M o E) : zX q d y pc (s0 :: s1 :: s2 :: s3 :: s4 :: s5 :: .val (.int x) :: tl) st M o E := by
  subst hp; subst hc; exact zX_step hd (by simp [zstep]) h
theorem zX_il7 {α : Type} {q : ZQ} {d y pc p : Nat} {M : ZI} {o : Option α} {E : α → Option Value → ZI → Prop} {st : List Value} {s0 s1 s2 s3 s4 s5 s6 : Slot} {tl : List Slot} {x : Int32} (hd : zdec y pc = some (.iload 7, 2)) (hp : pc + 2 = p) (h : zX q d y p (s0 :: s1 :: s2 :: s3 :: s4 :: s5 :: s6 :: .val (.int x) :: tl) (.int x :: st) M o E) : zX q d y pc (s0 :: s1 :: s2 :: s3 :: s4 :: s5 :: s6 :: .val (.int x) :: tl) st M o E := by
  subst hp; exact zX_step hd (by first | rfl | simp [zstep, zld]) h
theorem zX_al7 {α : Type} {q : ZQ} {d y pc p : Nat} {M : ZI} {o : Option α} {E : α → Option Value → ZI → Prop} {st : List Value} {s0 s1 s2 s3 s4 s5 s6 : Slot} {tl : List Slot} {x : Nat} (hd : zdec y pc = some (.aload 7, 2)) (hp : pc + 2 = p) (h : zX q d y p (s0 :: s1 :: s2 :: s3 :: s4 :: s5 :: s6 :: .val (.ref x) :: tl) (.ref x :: st) M o E) : zX q d y pc (s0 :: s1 :: s2 :: s3 :: s4 :: s5 :: s6 :: .val (.ref x) :: tl) st M o E := by
  subst hp; exact zX_step hd (by first | rfl | simp [zstep, zld]) h
theorem zX_an7 {α : Type} {q : ZQ} {d y pc p : Nat} {M : ZI} {o : Option α} {E : α → Option Value → ZI → Prop} {st : List Value} {s0 s1 s2 s3 s4 s5 s6 : Slot} {tl : List Slot} (hd : zdec y pc = some (.aload 7, 2)) (hp : pc + 2 = p) (h : zX q d y p (s0 :: s1 :: s2 :: s3 :: s4 :: s5 :: s6 :: .val .null :: tl) (.null :: st) M o E) : zX q d y pc (s0 :: s1 :: s2 :: s3 :: s4 :: s5 :: s6 :: .val .null :: tl) st M o E := by
  subst hp; exact zX_step hd (by first | rfl | simp [zstep, zld]) h
theorem zX_is7 {α : Type} {q : ZQ} {d y pc p : Nat} {M : ZI} {o : Option α} {E : α → Option Value → ZI → Prop} {st : List Value} {s0 s1 s2 s3 s4 s5 s6 : Slot} {tl : List Slot} {w : Slot} {x : Int32} (hd : zdec y pc = some (.istore 7, 2)) (hp : pc + 2 = p) (h : zX q d y p (s0 :: s1 :: s2 :: s3 :: s4 :: s5 :: s6 :: .val (.int x) :: tl) st M o E) : zX q d y pc (s0 :: s1 :: s2 :: s3 :: s4 :: s5 :: s6 :: w :: tl) (.int x :: st) M o E := by
  subst hp; exact zX_step hd (by first | rfl | simp [zstep, zst]) h
theorem zX_js7 {α : Type} {q : ZQ} {d y pc p : Nat} {M : ZI} {E : α → Option Value → ZI → Prop} {f : Int32 → Option α} {st : List Value} {s0 s1 s2 s3 s4 s5 s6 : Slot} {tl : List Slot} {w : Slot} {x : Int32} (hd : zdec y pc = some (.istore 7, 2)) (hp : pc + 2 = p) (h : ∀ x, zX q d y p (s0 :: s1 :: s2 :: s3 :: s4 :: s5 :: s6 :: .val (.int x) :: tl) st M (f x) E) : zX q d y pc (s0 :: s1 :: s2 :: s3 :: s4 :: s5 :: s6 :: w :: tl) (.int x :: st) M (zlet x f) E := by
  subst hp; exact zX_step hd (by first | rfl | simp [zstep, zst]) (h x)
theorem zX_as7 {α : Type} {q : ZQ} {d y pc p : Nat} {M : ZI} {o : Option α} {E : α → Option Value → ZI → Prop} {st : List Value} {s0 s1 s2 s3 s4 s5 s6 : Slot} {tl : List Slot} {w : Slot} {x : Nat} (hd : zdec y pc = some (.astore 7, 2)) (hp : pc + 2 = p) (h : zX q d y p (s0 :: s1 :: s2 :: s3 :: s4 :: s5 :: s6 :: .val (.ref x) :: tl) st M o E) : zX q d y pc (s0 :: s1 :: s2 :: s3 :: s4 :: s5 :: s6 :: w :: tl) (.ref x :: st) M o E := by
  subst hp; exact zX_step hd (by first | rfl | simp [zstep, zst]) h
theorem zX_ii7 {α : Type} {q : ZQ} {d y pc p : Nat} {M : ZI} {o : Option α} {E : α → Option Value → ZI → Prop} {st : List Value} {s0 s1 s2 s3 s4 s5 s6 : Slot} {tl : List Slot} {x c : Int32} {n : Int} (hd : zdec y pc = some (.iinc 7 n, 3)) (hc : Int32.ofInt n = c) (hp : pc + 3 = p) (h : zX q d y p (s0 :: s1 :: s2 :: s3 :: s4 :: s5 :: s6 :: .val (.int (x + c)) :: tl) st M o E) : zX q d y pc (s0 :: s1 :: s2 :: s3 :: s4 :: s5 :: s6 :: .val (.int x) :: tl) st M o E := by
  subst hp; subst hc; exact zX_step hd (by simp [zstep]) h
theorem zX_il8 {α : Type} {q : ZQ} {d y pc p : Nat} {M : ZI} {o : Option α} {E : α → Option Value → ZI → Prop} {st : List Value} {s0 s1 s2 s3 s4 s5 s6 s7 : Slot} {tl : List Slot} {x : Int32} (hd : zdec y pc = some (.iload 8, 2)) (hp : pc + 2 = p) (h : zX q d y p (s0 :: s1 :: s2 :: s3 :: s4 :: s5 :: s6 :: s7 :: .val (.int x) :: tl) (.int x :: st) M o E) : zX q d y pc (s0 :: s1 :: s2 :: s3 :: s4 :: s5 :: s6 :: s7 :: .val (.int x) :: tl) st M o E := by
  subst hp; exact zX_step hd (by first | rfl | simp [zstep, zld]) h
theorem zX_al8 {α : Type} {q : ZQ} {d y pc p : Nat} {M : ZI} {o : Option α} {E : α → Option Value → ZI → Prop} {st : List Value} {s0 s1 s2 s3 s4 s5 s6 s7 : Slot} {tl : List Slot} {x : Nat} (hd : zdec y pc = some (.aload 8, 2)) (hp : pc + 2 = p) (h : zX q d y p (s0 :: s1 :: s2 :: s3 :: s4 :: s5 :: s6 :: s7 :: .val (.ref x) :: tl) (.ref x :: st) M o E) : zX q d y pc (s0 :: s1 :: s2 :: s3 :: s4 :: s5 :: s6 :: s7 :: .val (.ref x) :: tl) st M o E := by
  subst hp; exact zX_step hd (by first | rfl | simp [zstep, zld]) h
theorem zX_an8 {α : Type} {q : ZQ} {d y pc p : Nat} {M : ZI} {o : Option α} {E : α → Option Value → ZI → Prop} {st : List Value} {s0 s1 s2 s3 s4 s5 s6 s7 : Slot} {tl : List Slot} (hd : zdec y pc = some (.aload 8, 2)) (hp : pc + 2 = p) (h : zX q d y p (s0 :: s1 :: s2 :: s3 :: s4 :: s5 :: s6 :: s7 :: .val .null :: tl) (.null :: st) M o E) : zX q d y pc (s0 :: s1 :: s2 :: s3 :: s4 :: s5 :: s6 :: s7 :: .val .null :: tl) st M o E := by
  subst hp; exact zX_step hd (by first | rfl | simp [zstep, zld]) h
theorem zX_is8 {α : Type} {q : ZQ} {d y pc p : Nat} {M : ZI} {o : Option α} {E : α → Option Value → ZI → Prop} {st : List Value} {s0 s1 s2 s3 s4 s5 s6 s7 : Slot} {tl : List Slot} {w : Slot} {x : Int32} (hd : zdec y pc = some (.istore 8, 2)) (hp : pc + 2 = p) (h : zX q d y p (s0 :: s1 :: s2 :: s3 :: s4 :: s5 :: s6 :: s7 :: .val (.int x) :: tl) st M o E) : zX q d y pc (s0 :: s1 :: s2 :: s3 :: s4 :: s5 :: s6 :: s7 :: w :: tl) (.int x :: st) M o E := by
  subst hp; exact zX_step hd (by first | rfl | simp [zstep, zst]) h
theorem zX_js8 {α : Type} {q : ZQ} {d y pc p : Nat} {M : ZI} {E : α → Option Value → ZI → Prop} {f : Int32 → Option α} {st : List Value} {s0 s1 s2 s3 s4 s5 s6 s7 : Slot} {tl : List Slot} {w : Slot} {x : Int32} (hd : zdec y pc = some (.istore 8, 2)) (hp : pc + 2 = p) (h : ∀ x, zX q d y p (s0 :: s1 :: s2 :: s3 :: s4 :: s5 :: s6 :: s7 :: .val (.int x) :: tl) st M (f x) E) : zX q d y pc (s0 :: s1 :: s2 :: s3 :: s4 :: s5 :: s6 :: s7 :: w :: tl) (.int x :: st) M (zlet x f) E := by
  subst hp; exact zX_step hd (by first | rfl | simp [zstep, zst]) (h x)
theorem zX_as8 {α : Type} {q : ZQ} {d y pc p : Nat} {M : ZI} {o : Option α} {E : α → Option Value → ZI → Prop} {st : List Value} {s0 s1 s2 s3 s4 s5 s6 s7 : Slot} {tl : List Slot} {w : Slot} {x : Nat} (hd : zdec y pc = some (.astore 8, 2)) (hp : pc + 2 = p) (h : zX q d y p (s0 :: s1 :: s2 :: s3 :: s4 :: s5 :: s6 :: s7 :: .val (.ref x) :: tl) st M o E) : zX q d y pc (s0 :: s1 :: s2 :: s3 :: s4 :: s5 :: s6 :: s7 :: w :: tl) (.ref x :: st) M o E := by
  subst hp; exact zX_step hd (by first | rfl | simp [zstep, zst]) h
theorem zX_ii8 {α : Type} {q : ZQ} {d y pc p : Nat} {M : ZI} {o : Option α} {E : α → Option Value → ZI → Prop} {st : List Value} {s0 s1 s2 s3 s4 s5 s6 s7 : Slot} {tl : List Slot} {x c : Int32} {n : Int} (hd : zdec y pc = some (.iinc 8 n, 3)) (hc : Int32.ofInt n = c) (hp : pc + 3 = p) (h : zX q d y p (s0 :: s1 :: s2 :: s3 :: s4 :: s5 :: s6 :: s7 :: .val (.int (x + c)) :: tl) st M o E) : zX q d y pc (s0 :: s1 :: s2 :: s3 :: s4 :: s5 :: s6 :: s7 :: .val (.int x) :: tl) st M o E := by
  subst hp; subst hc; exact zX_step hd (by simp [zstep]) h
theorem zX_il9 {α : Type} {q : ZQ} {d y pc p : Nat} {M : ZI} {o : Option α} {E : α → Option Value → ZI → Prop} {st : List Value} {s0 s1 s2 s3 s4 s5 s6 s7 s8 : Slot} {tl : List Slot} {x : Int32} (hd : zdec y pc = some (.iload 9, 2)) (hp : pc + 2 = p) (h : zX q d y p (s0 :: s1 :: s2 :: s3 :: s4 :: s5 :: s6 :: s7 :: s8 :: .val (.int x) :: tl) (.int x :: st) M o E) : zX q d y pc (s0 :: s1 :: s2 :: s3 :: s4 :: s5 :: s6 :: s7 :: s8 :: .val (.int x) :: tl) st M o E := by
  subst hp; exact zX_step hd (by first | rfl | simp [zstep, zld]) h
theorem zX_al9 {α : Type} {q : ZQ} {d y pc p : Nat} {M : ZI} {o : Option α} {E : α → Option Value → ZI → Prop} {st : List Value} {s0 s1 s2 s3 s4 s5 s6 s7 s8 : Slot} {tl : List Slot} {x : Nat} (hd : zdec y pc = some (.aload 9, 2)) (hp : pc + 2 = p) (h : zX q d y p (s0 :: s1 :: s2 :: s3 :: s4 :: s5 :: s6 :: s7 :: s8 :: .val (.ref x) :: tl) (.ref x :: st) M o E) : zX q d y pc (s0 :: s1 :: s2 :: s3 :: s4 :: s5 :: s6 :: s7 :: s8 :: .val (.ref x) :: tl) st M o E := by
  subst hp; exact zX_step hd (by first | rfl | simp [zstep, zld]) h
theorem zX_an9 {α : Type} {q : ZQ} {d y pc p : Nat} {M : ZI} {o : Option α} {E : α → Option Value → ZI → Prop} {st : List Value} {s0 s1 s2 s3 s4 s5 s6 s7 s8 : Slot} {tl : List Slot} (hd : zdec y pc = some (.aload 9, 2)) (hp : pc + 2 = p) (h : zX q d y p (s0 :: s1 :: s2 :: s3 :: s4 :: s5 :: s6 :: s7 :: s8 :: .val .null :: tl) (.null :: st) M o E) : zX q d y pc (s0 :: s1 :: s2 :: s3 :: s4 :: s5 :: s6 :: s7 :: s8 :: .val .null :: tl) st M o E := by
  subst hp; exact zX_step hd (by first | rfl | simp [zstep, zld]) h
theorem zX_is9 {α : Type} {q : ZQ} {d y pc p : Nat} {M : ZI} {o : Option α} {E : α → Option Value → ZI → Prop} {st : List Value} {s0 s1 s2 s3 s4 s5 s6 s7 s8 : Slot} {tl : List Slot} {w : Slot} {x : Int32} (hd : zdec y pc = some (.istore 9, 2)) (hp : pc + 2 = p) (h : zX q d y p (s0 :: s1 :: s2 :: s3 :: s4 :: s5 :: s6 :: s7 :: s8 :: .val (.int x) :: tl) st M o E) : zX q d y pc (s0 :: s1 :: s2 :: s3 :: s4 :: s5 :: s6 :: s7 :: s8 :: w :: tl) (.int x :: st) M o E := by
  subst hp; exact zX_step hd (by first | rfl | simp [zstep, zst]) h
theorem zX_js9 {α : Type} {q : ZQ} {d y pc p : Nat} {M : ZI} {E : α → Option Value → ZI → Prop} {f : Int32 → Option α} {st : List Value} {s0 s1 s2 s3 s4 s5 s6 s7 s8 : Slot} {tl : List Slot} {w : Slot} {x : Int32} (hd : zdec y pc = some (.istore 9, 2)) (hp : pc + 2 = p) (h : ∀ x, zX q d y p (s0 :: s1 :: s2 :: s3 :: s4 :: s5 :: s6 :: s7 :: s8 :: .val (.int x) :: tl) st M (f x) E) : zX q d y pc (s0 :: s1 :: s2 :: s3 :: s4 :: s5 :: s6 :: s7 :: s8 :: w :: tl) (.int x :: st) M (zlet x f) E := by
  subst hp; exact zX_step hd (by first | rfl | simp [zstep, zst]) (h x)
theorem zX_as9 {α : Type} {q : ZQ} {d y pc p : Nat} {M : ZI} {o : Option α} {E : α → Option Value → ZI → Prop} {st : List Value} {s0 s1 s2 s3 s4 s5 s6 s7 s8 : Slot} {tl : List Slot} {w : Slot} {x : Nat} (hd : zdec y pc = some (.astore 9, 2)) (hp : pc + 2 = p) (h : zX q d y p (s0 :: s1 :: s2 :: s3 :: s4 :: s5 :: s6 :: s7 :: s8 :: .val (.ref x) :: tl) st M o E) : zX q d y pc (s0 :: s1 :: s2 :: s3 :: s4 :: s5 :: s6 :: s7 :: s8 :: w :: tl) (.ref x :: st) M o E := by
  subst hp; exact zX_step hd (by first | rfl | simp [zstep, zst]) h
theorem zX_ii9 {α : Type} {q : ZQ} {d y pc p : Nat} {M : ZI} {o : Option α} {E : α → Option Value → ZI → Prop} {st : List Value} {s0 s1 s2 s3 s4 s5 s6 s7 s8 : Slot} {tl : List Slot} {x c : Int32} {n : Int} (hd : zdec y pc = some (.iinc 9 n, 3)) (hc : Int32.ofInt n = c) (hp : pc + 3 = p) (h : zX q d y p (s0 :: s1 :: s2 :: s3 :: s4 :: s5 :: s6 :: s7 :: s8 :: .val (.int (x + c)) :: tl) st M o E) : zX q d y pc (s0 :: s1 :: s2 :: s3 :: s4 :: s5 :: s6 :: s7 :: s8 :: .val (.int x) :: tl) st M o E := by
  subst hp; subst hc; exact zX_step hd (by simp [zstep]) h
theorem zX_il10 {α : Type} {q : ZQ} {d y pc p : Nat} {M : ZI} {o : Option α} {E : α → Option Value → ZI → Prop} {st : List Value} {s0 s1 s2 s3 s4 s5 s6 s7 s8 s9 : Slot} {tl : List Slot} {x : Int32} (hd : zdec y pc = some (.iload 10, 2)) (hp : pc + 2 = p) (h : zX q d y p (s0 :: s1 :: s2 :: s3 :: s4 :: s5 :: s6 :: s7 :: s8 :: s9 :: .val (.int x) :: tl) (.int x :: st) M o E) : zX q d y pc (s0 :: s1 :: s2 :: s3 :: s4 :: s5 :: s6 :: s7 :: s8 :: s9 :: .val (.int x) :: tl) st M o E := by
  subst hp; exact zX_step hd (by first | rfl | simp [zstep, zld]) h
theorem zX_al10 {α : Type} {q : ZQ} {d y pc p : Nat} {M : ZI} {o : Option α} {E : α → Option Value → ZI → Prop} {st : List Value} {s0 s1 s2 s3 s4 s5 s6 s7 s8 s9 : Slot} {tl : List Slot} {x : Nat} (hd : zdec y pc = some (.aload 10, 2)) (hp : pc + 2 = p) (h : zX q d y p (s0 :: s1 :: s2 :: s3 :: s4 :: s5 :: s6 :: s7 :: s8 :: s9 :: .val (.ref x) :: tl) (.ref x :: st) M o E) : zX q d y pc (s0 :: s1 :: s2 :: s3 :: s4 :: s5 :: s6 :: s7 :: s8 :: s9 :: .val (.ref x) :: tl) st M o E := by
  subst hp; exact zX_step hd (by first | rfl | simp [zstep, zld]) h
theorem zX_an10 {α : Type} {q : ZQ} {d y pc p : Nat} {M : ZI} {o : Option α} {E : α → Option Value → ZI → Prop} {st : List Value} {s0 s1 s2 s3 s4 s5 s6 s7 s8 s9 : Slot} {tl : List Slot} (hd : zdec y pc = some (.aload 10, 2)) (hp : pc + 2 = p) (h : zX q d y p (s0 :: s1 :: s2 :: s3 :: s4 :: s5 :: s6 :: s7 :: s8 :: s9 :: .val .null :: tl) (.null :: st) M o E) : zX q d y pc (s0 :: s1 :: s2 :: s3 :: s4 :: s5 :: s6 :: s7 :: s8 :: s9 :: .val .null :: tl) st M o E := by
  subst hp; exact zX_step hd (by first | rfl | simp [zstep, zld]) h
theorem zX_is10 {α : Type} {q : ZQ} {d y pc p : Nat} {M : ZI} {o : Option α} {E : α → Option Value → ZI → Prop} {st : List Value} {s0 s1 s2 s3 s4 s5 s6 s7 s8 s9 : Slot} {tl : List Slot} {w : Slot} {x : Int32} (hd : zdec y pc = some (.istore 10, 2)) (hp : pc + 2 = p) (h : zX q d y p (s0 :: s1 :: s2 :: s3 :: s4 :: s5 :: s6 :: s7 :: s8 :: s9 :: .val (.int x) :: tl) st M o E) : zX q d y pc (s0 :: s1 :: s2 :: s3 :: s4 :: s5 :: s6 :: s7 :: s8 :: s9 :: w :: tl) (.int x :: st) M o E := by
  subst hp; exact zX_step hd (by first | rfl | simp [zstep, zst]) h
theorem zX_js10 {α : Type} {q : ZQ} {d y pc p : Nat} {M : ZI} {E : α → Option Value → ZI → Prop} {f : Int32 → Option α} {st : List Value} {s0 s1 s2 s3 s4 s5 s6 s7 s8 s9 : Slot} {tl : List Slot} {w : Slot} {x : Int32} (hd : zdec y pc = some (.istore 10, 2)) (hp : pc + 2 = p) (h : ∀ x, zX q d y p (s0 :: s1 :: s2 :: s3 :: s4 :: s5 :: s6 :: s7 :: s8 :: s9 :: .val (.int x) :: tl) st M (f x) E) : zX q d y pc (s0 :: s1 :: s2 :: s3 :: s4 :: s5 :: s6 :: s7 :: s8 :: s9 :: w :: tl) (.int x :: st) M (zlet x f) E := by
  subst hp; exact zX_step hd (by first | rfl | simp [zstep, zst]) (h x)
theorem zX_as10 {α : Type} {q : ZQ} {d y pc p : Nat} {M : ZI} {o : Option α} {E : α → Option Value → ZI → Prop} {st : List Value} {s0 s1 s2 s3 s4 s5 s6 s7 s8 s9 : Slot} {tl : List Slot} {w : Slot} {x : Nat} (hd : zdec y pc = some (.astore 10, 2)) (hp : pc + 2 = p) (h : zX q d y p (s0 :: s1 :: s2 :: s3 :: s4 :: s5 :: s6 :: s7 :: s8 :: s9 :: .val (.ref x) :: tl) st M o E) : zX q d y pc (s0 :: s1 :: s2 :: s3 :: s4 :: s5 :: s6 :: s7 :: s8 :: s9 :: w :: tl) (.ref x :: st) M o E := by
  subst hp; exact zX_step hd (by first | rfl | simp [zstep, zst]) h
theorem zX_ii10 {α : Type} {q : ZQ} {d y pc p : Nat} {M : ZI} {o : Option α} {E : α → Option Value → ZI → Prop} {st : List Value} {s0 s1 s2 s3 s4 s5 s6 s7 s8 s9 : Slot} {tl : List Slot} {x c : Int32} {n : Int} (hd : zdec y pc = some (.iinc 10 n, 3)) (hc : Int32.ofInt n = c) (hp : pc + 3 = p) (h : zX q d y p (s0 :: s1 :: s2 :: s3 :: s4 :: s5 :: s6 :: s7 :: s8 :: s9 :: .val (.int (x + c)) :: tl) st M o E) : zX q d y pc (s0 :: s1 :: s2 :: s3 :: s4 :: s5 :: s6 :: s7 :: s8 :: s9 :: .val (.int x) :: tl) st M o E := by
  subst hp; subst hc; exact zX_step hd (by simp [zstep]) h
theorem zX_il11 {α : Type} {q : ZQ} {d y pc p : Nat} {M : ZI} {o : Option α} {E : α → Option Value → ZI → Prop} {st : List Value} {s0 s1 s2 s3 s4 s5 s6 s7 s8 s9 s10 : Slot} {tl : List Slot} {x : Int32} (hd : zdec y pc = some (.iload 11, 2)) (hp : pc + 2 = p) (h : zX q d y p (s0 :: s1 :: s2 :: s3 :: s4 :: s5 :: s6 :: s7 :: s8 :: s9 :: s10 :: .val (.int x) :: tl) (.int x :: st) M o E) : zX q d y pc (s0 :: s1 :: s2 :: s3 :: s4 :: s5 :: s6 :: s7 :: s8 :: s9 :: s10 :: .val (.int x) :: tl) st M o E := by
  subst hp; exact zX_step hd (by first | rfl | simp [zstep, zld]) h
theorem zX_al11 {α : Type} {q : ZQ} {d y pc p : Nat} {M : ZI} {o : Option α} {E : α → Option Value → ZI → Prop} {st : List Value} {s0 s1 s2 s3 s4 s5 s6 s7 s8 s9 s10 : Slot} {tl : List Slot} {x : Nat} (hd : zdec y pc = some (.aload 11, 2)) (hp : pc + 2 = p) (h : zX q d y p (s0 :: s1 :: s2 :: s3 :: s4 :: s5 :: s6 :: s7 :: s8 :: s9 :: s10 :: .val (.ref x) :: tl) (.ref x :: st) M o E) : zX q d y pc (s0 :: s1 :: s2 :: s3 :: s4 :: s5 :: s6 :: s7 :: s8 :: s9 :: s10 :: .val (.ref x) :: tl) st M o E := by
  subst hp; exact zX_step hd (by first | rfl | simp [zstep, zld]) h
theorem zX_an11 {α : Type} {q : ZQ} {d y pc p : Nat} {M : ZI} {o : Option α} {E : α → Option Value → ZI → Prop} {st : List Value} {s0 s1 s2 s3 s4 s5 s6 s7 s8 s9 s10 : Slot} {tl : List Slot} (hd : zdec y pc = some (.aload 11, 2)) (hp : pc + 2 = p) (h : zX q d y p (s0 :: s1 :: s2 :: s3 :: s4 :: s5 :: s6 :: s7 :: s8 :: s9 :: s10 :: .val .null :: tl) (.null :: st) M o E) : zX q d y pc (s0 :: s1 :: s2 :: s3 :: s4 :: s5 :: s6 :: s7 :: s8 :: s9 :: s10 :: .val .null :: tl) st M o E := by
  subst hp; exact zX_step hd (by first | rfl | simp [zstep, zld]) h
theorem zX_is11 {α : Type} {q : ZQ} {d y pc p : Nat} {M : ZI} {o : Option α} {E : α → Option Value → ZI → Prop} {st : List Value} {s0 s1 s2 s3 s4 s5 s6 s7 s8 s9 s10 : Slot} {tl : List Slot} {w : Slot} {x : Int32} (hd : zdec y pc = some (.istore 11, 2)) (hp : pc + 2 = p) (h : zX q d y p (s0 :: s1 :: s2 :: s3 :: s4 :: s5 :: s6 :: s7 :: s8 :: s9 :: s10 :: .val (.int x) :: tl) st M o E) : zX q d y pc (s0 :: s1 :: s2 :: s3 :: s4 :: s5 :: s6 :: s7 :: s8 :: s9 :: s10 :: w :: tl) (.int x :: st) M o E := by
  subst hp; exact zX_step hd (by first | rfl | simp [zstep, zst]) h
theorem zX_js11 {α : Type} {q : ZQ} {d y pc p : Nat} {M : ZI} {E : α → Option Value → ZI → Prop} {f : Int32 → Option α} {st : List Value} {s0 s1 s2 s3 s4 s5 s6 s7 s8 s9 s10 : Slot} {tl : List Slot} {w : Slot} {x : Int32} (hd : zdec y pc = some (.istore 11, 2)) (hp : pc + 2 = p) (h : ∀ x, zX q d y p (s0 :: s1 :: s2 :: s3 :: s4 :: s5 :: s6 :: s7 :: s8 :: s9 :: s10 :: .val (.int x) :: tl) st M (f x) E) : zX q d y pc (s0 :: s1 :: s2 :: s3 :: s4 :: s5 :: s6 :: s7 :: s8 :: s9 :: s10 :: w :: tl) (.int x :: st) M (zlet x f) E := by
  subst hp; exact zX_step hd (by first | rfl | simp [zstep, zst]) (h x)
theorem zX_as11 {α : Type} {q : ZQ} {d y pc p : Nat} {M : ZI} {o : Option α} {E : α → Option Value → ZI → Prop} {st : List Value} {s0 s1 s2 s3 s4 s5 s6 s7 s8 s9 s10 : Slot} {tl : List Slot} {w : Slot} {x : Nat} (hd : zdec y pc = some (.astore 11, 2)) (hp : pc + 2 = p) (h : zX q d y p (s0 :: s1 :: s2 :: s3 :: s4 :: s5 :: s6 :: s7 :: s8 :: s9 :: s10 :: .val (.ref x) :: tl) st M o E) : zX q d y pc (s0 :: s1 :: s2 :: s3 :: s4 :: s5 :: s6 :: s7 :: s8 :: s9 :: s10 :: w :: tl) (.ref x :: st) M o E := by
  subst hp; exact zX_step hd (by first | rfl | simp [zstep, zst]) h
theorem zX_ii11 {α : Type} {q : ZQ} {d y pc p : Nat} {M : ZI} {o : Option α} {E : α → Option Value → ZI → Prop} {st : List Value} {s0 s1 s2 s3 s4 s5 s6 s7 s8 s9 s10 : Slot} {tl : List Slot} {x c : Int32} {n : Int} (hd : zdec y pc = some (.iinc 11 n, 3)) (hc : Int32.ofInt n = c) (hp : pc + 3 = p) (h : zX q d y p (s0 :: s1 :: s2 :: s3 :: s4 :: s5 :: s6 :: s7 :: s8 :: s9 :: s10 :: .val (.int (x + c)) :: tl) st M o E) : zX q d y pc (s0 :: s1 :: s2 :: s3 :: s4 :: s5 :: s6 :: s7 :: s8 :: s9 :: s10 :: .val (.int x) :: tl) st M o E := by
  subst hp; subst hc; exact zX_step hd (by simp [zstep]) h
theorem zX_il12 {α : Type} {q : ZQ} {d y pc p : Nat} {M : ZI} {o : Option α} {E : α → Option Value → ZI → Prop} {st : List Value} {s0 s1 s2 s3 s4 s5 s6 s7 s8 s9 s10 s11 : Slot} {tl : List Slot} {x : Int32} (hd : zdec y pc = some (.iload 12, 2)) (hp : pc + 2 = p) (h : zX q d y p (s0 :: s1 :: s2 :: s3 :: s4 :: s5 :: s6 :: s7 :: s8 :: s9 :: s10 :: s11 :: .val (.int x) :: tl) (.int x :: st) M o E) : zX q d y pc (s0 :: s1 :: s2 :: s3 :: s4 :: s5 :: s6 :: s7 :: s8 :: s9 :: s10 :: s11 :: .val (.int x) :: tl) st M o E := by
  subst hp; exact zX_step hd (by first | rfl | simp [zstep, zld]) h
theorem zX_al12 {α : Type} {q : ZQ} {d y pc p : Nat} {M : ZI} {o : Option α} {E : α → Option Value → ZI → Prop} {st : List Value} {s0 s1 s2 s3 s4 s5 s6 s7 s8 s9 s10 s11 : Slot} {tl : List Slot} {x : Nat} (hd : zdec y pc = some (.aload 12, 2)) (hp : pc + 2 = p) (h : zX q d y p (s0 :: s1 :: s2 :: s3 :: s4 :: s5 :: s6 :: s7 :: s8 :: s9 :: s10 :: s11 :: .val (.ref x) :: tl) (.ref x :: st) M o E) : zX q d y pc (s0 :: s1 :: s2 :: s3 :: s4 :: s5 :: s6 :: s7 :: s8 :: s9 :: s10 :: s11 :: .val (.ref x) :: tl) st M o E := by
  subst hp; exact zX_step hd (by first | rfl | simp [zstep, zld]) h
theorem zX_an12 {α : Type} {q : ZQ} {d y pc p : Nat} {M : ZI} {o : Option α} {E : α → Option Value → ZI → Prop} {st : List Value} {s0 s1 s2 s3 s4 s5 s6 s7 s8 s9 s10 s11 : Slot} {tl : List Slot} (hd : zdec y pc = some (.aload 12, 2)) (hp : pc + 2 = p) (h : zX q d y p (s0 :: s1 :: s2 :: s3 :: s4 :: s5 :: s6 :: s7 :: s8 :: s9 :: s10 :: s11 :: .val .null :: tl) (.null :: st) M o E) : zX q d y pc (s0 :: s1 :: s2 :: s3 :: s4 :: s5 :: s6 :: s7 :: s8 :: s9 :: s10 :: s11 :: .val .null :: tl) st M o E := by
  subst hp; exact zX_step hd (by first | rfl | simp [zstep, zld]) h
theorem zX_is12 {α : Type} {q : ZQ} {d y pc p : Nat} {M : ZI} {o : Option α} {E : α → Option Value → ZI → Prop} {st : List Value} {s0 s1 s2 s3 s4 s5 s6 s7 s8 s9 s10 s11 : Slot} {tl : List Slot} {w : Slot} {x : Int32} (hd : zdec y pc = some (.istore 12, 2)) (hp : pc + 2 = p) (h : zX q d y p (s0 :: s1 :: s2 :: s3 :: s4 :: s5 :: s6 :: s7 :: s8 :: s9 :: s10 :: s11 :: .val (.int x) :: tl) st M o E) : zX q d y pc (s0 :: s1 :: s2 :: s3 :: s4 :: s5 :: s6 :: s7 :: s8 :: s9 :: s10 :: s11 :: w :: tl) (.int x :: st) M o E := by
  subst hp; exact zX_step hd (by first | rfl | simp [zstep, zst]) h
theorem zX_js12 {α : Type} {q : ZQ} {d y pc p : Nat} {M : ZI} {E : α → Option Value → ZI → Prop} {f : Int32 → Option α} {st : List Value} {s0 s1 s2 s3 s4 s5 s6 s7 s8 s9 s10 s11 : Slot} {tl : List Slot} {w : Slot} {x : Int32} (hd : zdec y pc = some (.istore 12, 2)) (hp : pc + 2 = p) (h : ∀ x, zX q d y p (s0 :: s1 :: s2 :: s3 :: s4 :: s5 :: s6 :: s7 :: s8 :: s9 :: s10 :: s11 :: .val (.int x) :: tl) st M (f x) E) : zX q d y pc (s0 :: s1 :: s2 :: s3 :: s4 :: s5 :: s6 :: s7 :: s8 :: s9 :: s10 :: s11 :: w :: tl) (.int x :: st) M (zlet x f) E := by
  subst hp; exact zX_step hd (by first | rfl | simp [zstep, zst]) (h x)
theorem zX_as12 {α : Type} {q : ZQ} {d y pc p : Nat} {M : ZI} {o : Option α} {E : α → Option Value → ZI → Prop} {st : List Value} {s0 s1 s2 s3 s4 s5 s6 s7 s8 s9 s10 s11 : Slot} {tl : List Slot} {w : Slot} {x : Nat} (hd : zdec y pc = some (.astore 12, 2)) (hp : pc + 2 = p) (h : zX q d y p (s0 :: s1 :: s2 :: s3 :: s4 :: s5 :: s6 :: s7 :: s8 :: s9 :: s10 :: s11 :: .val (.ref x) :: tl) st M o E) : zX q d y pc (s0 :: s1 :: s2 :: s3 :: s4 :: s5 :: s6 :: s7 :: s8 :: s9 :: s10 :: s11 :: w :: tl) (.ref x :: st) M o E := by
  subst hp; exact zX_step hd (by first | rfl | simp [zstep, zst]) h
theorem zX_ii12 {α : Type} {q : ZQ} {d y pc p : Nat} {M : ZI} {o : Option α} {E : α → Option Value → ZI → Prop} {st : List Value} {s0 s1 s2 s3 s4 s5 s6 s7 s8 s9 s10 s11 : Slot} {tl : List Slot} {x c : Int32} {n : Int} (hd : zdec y pc = some (.iinc 12 n, 3)) (hc : Int32.ofInt n = c) (hp : pc + 3 = p) (h : zX q d y p (s0 :: s1 :: s2 :: s3 :: s4 :: s5 :: s6 :: s7 :: s8 :: s9 :: s10 :: s11 :: .val (.int (x + c)) :: tl) st M o E) : zX q d y pc (s0 :: s1 :: s2 :: s3 :: s4 :: s5 :: s6 :: s7 :: s8 :: s9 :: s10 :: s11 :: .val (.int x) :: tl) st M o E := by
  subst hp; subst hc; exact zX_step hd (by simp [zstep]) h
theorem zX_il13 {α : Type} {q : ZQ} {d y pc p : Nat} {M : ZI} {o : Option α} {E : α → Option Value → ZI → Prop} {st : List Value} {s0 s1 s2 s3 s4 s5 s6 s7 s8 s9 s10 s11 s12 : Slot} {tl : List Slot} {x : Int32} (hd : zdec y pc = some (.iload 13, 2)) (hp : pc + 2 = p) (h : zX q d y p (s0 :: s1 :: s2 :: s3 :: s4 :: s5 :: s6 :: s7 :: s8 :: s9 :: s10 :: s11 :: s12 :: .val (.int x) :: tl) (.int x :: st) M o E) : zX q d y pc (s0 :: s1 :: s2 :: s3 :: s4 :: s5 :: s6 :: s7 :: s8 :: s9 :: s10 :: s11 :: s12 :: .val (.int x) :: tl) st M o E := by
  subst hp; exact zX_step hd (by first | rfl | simp [zstep, zld]) h
theorem zX_al13 {α : Type} {q : ZQ} {d y pc p : Nat} {M : ZI} {o : Option α} {E : α → Option Value → ZI → Prop} {st : List Value} {s0 s1 s2 s3 s4 s5 s6 s7 s8 s9 s10 s11 s12 : Slot} {tl : List Slot} {x : Nat} (hd : zdec y pc = some (.aload 13, 2)) (hp : pc + 2 = p) (h : zX q d y p (s0 :: s1 :: s2 :: s3 :: s4 :: s5 :: s6 :: s7 :: s8 :: s9 :: s10 :: s11 :: s12 :: .val (.ref x) :: tl) (.ref x :: st) M o E) : zX q d y pc (s0 :: s1 :: s2 :: s3 :: s4 :: s5 :: s6 :: s7 :: s8 :: s9 :: s10 :: s11 :: s12 :: .val (.ref x) :: tl) st M o E := by
  subst hp; exact zX_step hd (by first | rfl | simp [zstep, zld]) h
theorem zX_an13 {α : Type} {q : ZQ} {d y pc p : Nat} {M : ZI} {o : Option α} {E : α → Option Value → ZI → Prop} {st : List Value} {s0 s1 s2 s3 s4 s5 s6 s7 s8 s9 s10 s11 s12 : Slot} {tl : List Slot} (hd : zdec y pc = some (.aload 13, 2)) (hp : pc + 2 = p) (h : zX q d y p (s0 :: s1 :: s2 :: s3 :: s4 :: s5 :: s6 :: s7 :: s8 :: s9 :: s10 :: s11 :: s12 :: .val .null :: tl) (.null :: st) M o E) : zX q d y pc (s0 :: s1 :: s2 :: s3 :: s4 :: s5 :: s6 :: s7 :: s8 :: s9 :: s10 :: s11 :: s12 :: .val .null :: tl) st M o E := by
  subst hp; exact zX_step hd (by first | rfl | simp [zstep, zld]) h
theorem zX_is13 {α : Type} {q : ZQ} {d y pc p : Nat} {M : ZI} {o : Option α} {E : α → Option Value → ZI → Prop} {st : List Value} {s0 s1 s2 s3 s4 s5 s6 s7 s8 s9 s10 s11 s12 : Slot} {tl : List Slot} {w : Slot} {x : Int32} (hd : zdec y pc = some (.istore 13, 2)) (hp : pc + 2 = p) (h : zX q d y p (s0 :: s1 :: s2 :: s3 :: s4 :: s5 :: s6 :: s7 :: s8 :: s9 :: s10 :: s11 :: s12 :: .val (.int x) :: tl) st M o E) : zX q d y pc (s0 :: s1 :: s2 :: s3 :: s4 :: s5 :: s6 :: s7 :: s8 :: s9 :: s10 :: s11 :: s12 :: w :: tl) (.int x :: st) M o E := by
  subst hp; exact zX_step hd (by first | rfl | simp [zstep, zst]) h
theorem zX_js13 {α : Type} {q : ZQ} {d y pc p : Nat} {M : ZI} {E : α → Option Value → ZI → Prop} {f : Int32 → Option α} {st : List Value} {s0 s1 s2 s3 s4 s5 s6 s7 s8 s9 s10 s11 s12 : Slot} {tl : List Slot} {w : Slot} {x : Int32} (hd : zdec y pc = some (.istore 13, 2)) (hp : pc + 2 = p) (h : ∀ x, zX q d y p (s0 :: s1 :: s2 :: s3 :: s4 :: s5 :: s6 :: s7 :: s8 :: s9 :: s10 :: s11 :: s12 :: .val (.int x) :: tl) st M (f x) E) : zX q d y pc (s0 :: s1 :: s2 :: s3 :: s4 :: s5 :: s6 :: s7 :: s8 :: s9 :: s10 :: s11 :: s12 :: w :: tl) (.int x :: st) M (zlet x f) E := by
  subst hp; exact zX_step hd (by first | rfl | simp [zstep, zst]) (h x)
theorem zX_as13 {α : Type} {q : ZQ} {d y pc p : Nat} {M : ZI} {o : Option α} {E : α → Option Value → ZI → Prop} {st : List Value} {s0 s1 s2 s3 s4 s5 s6 s7 s8 s9 s10 s11 s12 : Slot} {tl : List Slot} {w : Slot} {x : Nat} (hd : zdec y pc = some (.astore 13, 2)) (hp : pc + 2 = p) (h : zX q d y p (s0 :: s1 :: s2 :: s3 :: s4 :: s5 :: s6 :: s7 :: s8 :: s9 :: s10 :: s11 :: s12 :: .val (.ref x) :: tl) st M o E) : zX q d y pc (s0 :: s1 :: s2 :: s3 :: s4 :: s5 :: s6 :: s7 :: s8 :: s9 :: s10 :: s11 :: s12 :: w :: tl) (.ref x :: st) M o E := by
  subst hp; exact zX_step hd (by first | rfl | simp [zstep, zst]) h
theorem zX_ii13 {α : Type} {q : ZQ} {d y pc p : Nat} {M : ZI} {o : Option α} {E : α → Option Value → ZI → Prop} {st : List Value} {s0 s1 s2 s3 s4 s5 s6 s7 s8 s9 s10 s11 s12 : Slot} {tl : List Slot} {x c : Int32} {n : Int} (hd : zdec y pc = some (.iinc 13 n, 3)) (hc : Int32.ofInt n = c) (hp : pc + 3 = p) (h : zX q d y p (s0 :: s1 :: s2 :: s3 :: s4 :: s5 :: s6 :: s7 :: s8 :: s9 :: s10 :: s11 :: s12 :: .val (.int (x + c)) :: tl) st M o E) : zX q d y pc (s0 :: s1 :: s2 :: s3 :: s4 :: s5 :: s6 :: s7 :: s8 :: s9 :: s10 :: s11 :: s12 :: .val (.int x) :: tl) st M o E := by
  subst hp; subst hc; exact zX_step hd (by simp [zstep]) h
theorem zX_il14 {α : Type} {q : ZQ} {d y pc p : Nat} {M : ZI} {o : Option α} {E : α → Option Value → ZI → Prop} {st : List Value} {s0 s1 s2 s3 s4 s5 s6 s7 s8 s9 s10 s11 s12 s13 : Slot} {tl : List Slot} {x : Int32} (hd : zdec y pc = some (.iload 14, 2)) (hp : pc + 2 = p) (h : zX q d y p (s0 :: s1 :: s2 :: s3 :: s4 :: s5 :: s6 :: s7 :: s8 :: s9 :: s10 :: s11 :: s12 :: s13 :: .val (.int x) :: tl) (.int x :: st) M o E) : zX q d y pc (s0 :: s1 :: s2 :: s3 :: s4 :: s5 :: s6 :: s7 :: s8 :: s9 :: s10 :: s11 :: s12 :: s13 :: .val (.int x) :: tl) st M o E := by
  subst hp; exact zX_step hd (by first | rfl | simp [zstep, zld]) h
theorem zX_al14 {α : Type} {q : ZQ} {d y pc p : Nat} {M : ZI} {o : Option α} {E : α → Option Value → ZI → Prop} {st : List Value} {s0 s1 s2 s3 s4 s5 s6 s7 s8 s9 s10 s11 s12 s13 : Slot} {tl : List Slot} {x : Nat} (hd : zdec y pc = some (.aload 14, 2)) (hp : pc + 2 = p) (h : zX q d y p (s0 :: s1 :: s2 :: s3 :: s4 :: s5 :: s6 :: s7 :: s8 :: s9 :: s10 :: s11 :: s12 :: s13 :: .val (.ref x) :: tl) (.ref x :: st) M o E) : zX q d y pc (s0 :: s1 :: s2 :: s3 :: s4 :: s5 :: s6 :: s7 :: s8 :: s9 :: s10 :: s11 :: s12 :: s13 :: .val (.ref x) :: tl) st M o E := by
  subst hp; exact zX_step hd (by first | rfl | simp [zstep, zld]) h
theorem zX_an14 {α : Type} {q : ZQ} {d y pc p : Nat} {M : ZI} {o : Option α} {E : α → Option Value → ZI → Prop} {st : List Value} {s0 s1 s2 s3 s4 s5 s6 s7 s8 s9 s10 s11 s12 s13 : Slot} {tl : List Slot} (hd : zdec y pc = some (.aload 14, 2)) (hp : pc + 2 = p) (h : zX q d y p (s0 :: s1 :: s2 :: s3 :: s4 :: s5 :: s6 :: s7 :: s8 :: s9 :: s10 :: s11 :: s12 :: s13 :: .val .null :: tl) (.null :: st) M o E) : zX q d y pc (s0 :: s1 :: s2 :: s3 :: s4 :: s5 :: s6 :: s7 :: s8 :: s9 :: s10 :: s11 :: s12 :: s13 :: .val .null :: tl) st M o E := by
  subst hp; exact zX_step hd (by first | rfl | simp [zstep, zld]) h
theorem zX_is14 {α : Type} {q : ZQ} {d y pc p : Nat} {M : ZI} {o : Option α} {E : α → Option Value → ZI → Prop} {st : List Value} {s0 s1 s2 s3 s4 s5 s6 s7 s8 s9 s10 s11 s12 s13 : Slot} {tl : List Slot} {w : Slot} {x : Int32} (hd : zdec y pc = some (.istore 14, 2)) (hp : pc + 2 = p) (h : zX q d y p (s0 :: s1 :: s2 :: s3 :: s4 :: s5 :: s6 :: s7 :: s8 :: s9 :: s10 :: s11 :: s12 :: s13 :: .val (.int x) :: tl) st M o E) : zX q d y pc (s0 :: s1 :: s2 :: s3 :: s4 :: s5 :: s6 :: s7 :: s8 :: s9 :: s10 :: s11 :: s12 :: s13 :: w :: tl) (.int x :: st) M o E := by
  subst hp; exact zX_step hd (by first | rfl | simp [zstep, zst]) h
theorem zX_js14 {α : Type} {q : ZQ} {d y pc p : Nat} {M : ZI} {E : α → Option Value → ZI → Prop} {f : Int32 → Option α} {st : List Value} {s0 s1 s2 s3 s4 s5 s6 s7 s8 s9 s10 s11 s12 s13 : Slot} {tl : List Slot} {w : Slot} {x : Int32} (hd : zdec y pc = some (.istore 14, 2)) (hp : pc + 2 = p) (h : ∀ x, zX q d y p (s0 :: s1 :: s2 :: s3 :: s4 :: s5 :: s6 :: s7 :: s8 :: s9 :: s10 :: s11 :: s12 :: s13 :: .val (.int x) :: tl) st M (f x) E) : zX q d y pc (s0 :: s1 :: s2 :: s3 :: s4 :: s5 :: s6 :: s7 :: s8 :: s9 :: s10 :: s11 :: s12 :: s13 :: w :: tl) (.int x :: st) M (zlet x f) E := by
  subst hp; exact zX_step hd (by first | rfl | simp [zstep, zst]) (h x)
theorem zX_as14 {α : Type} {q : ZQ} {d y pc p : Nat} {M : ZI} {o : Option α} {E : α → Option Value → ZI → Prop} {st : List Value} {s0 s1 s2 s3 s4 s5 s6 s7 s8 s9 s10 s11 s12 s13 : Slot} {tl : List Slot} {w : Slot} {x : Nat} (hd : zdec y pc = some (.astore 14, 2)) (hp : pc + 2 = p) (h : zX q d y p (s0 :: s1 :: s2 :: s3 :: s4 :: s5 :: s6 :: s7 :: s8 :: s9 :: s10 :: s11 :: s12 :: s13 :: .val (.ref x) :: tl) st M o E) : zX q d y pc (s0 :: s1 :: s2 :: s3 :: s4 :: s5 :: s6 :: s7 :: s8 :: s9 :: s10 :: s11 :: s12 :: s13 :: w :: tl) (.ref x :: st) M o E := by
  subst hp; exact zX_step hd (by first | rfl | simp [zstep, zst]) h
theorem zX_ii14 {α : Type} {q : ZQ} {d y pc p : Nat} {M : ZI} {o : Option α} {E : α → Option Value → ZI → Prop} {st : List Value} {s0 s1 s2 s3 s4 s5 s6 s7 s8 s9 s10 s11 s12 s13 : Slot} {tl : List Slot} {x c : Int32} {n : Int} (hd : zdec y pc = some (.iinc 14 n, 3)) (hc : Int32.ofInt n = c) (hp : pc + 3 = p) (h : zX q d y p (s0 :: s1 :: s2 :: s3 :: s4 :: s5 :: s6 :: s7 :: s8 :: s9 :: s10 :: s11 :: s12 :: s13 :: .val (.int (x + c)) :: tl) st M o E) : zX q d y pc (s0 :: s1 :: s2 :: s3 :: s4 :: s5 :: s6 :: s7 :: s8 :: s9 :: s10 :: s11 :: s12 :: s13 :: .val (.int x) :: tl) st M o E := by
  subst hp; subst hc; exact zX_step hd (by simp [zstep]) h
theorem zX_il15 {α : Type} {q : ZQ} {d y pc p : Nat} {M : ZI} {o : Option α} {E : α → Option Value → ZI → Prop} {st : List Value} {s0 s1 s2 s3 s4 s5 s6 s7 s8 s9 s10 s11 s12 s13 s14 : Slot} {tl : List Slot} {x : Int32} (hd : zdec y pc = some (.iload 15, 2)) (hp : pc + 2 = p) (h : zX q d y p (s0 :: s1 :: s2 :: s3 :: s4 :: s5 :: s6 :: s7 :: s8 :: s9 :: s10 :: s11 :: s12 :: s13 :: s14 :: .val (.int x) :: tl) (.int x :: st) M o E) : zX q d y pc (s0 :: s1 :: s2 :: s3 :: s4 :: s5 :: s6 :: s7 :: s8 :: s9 :: s10 :: s11 :: s12 :: s13 :: s14 :: .val (.int x) :: tl) st M o E := by
  subst hp; exact zX_step hd (by first | rfl | simp [zstep, zld]) h
theorem zX_al15 {α : Type} {q : ZQ} {d y pc p : Nat} {M : ZI} {o : Option α} {E : α → Option Value → ZI → Prop} {st : List Value} {s0 s1 s2 s3 s4 s5 s6 s7 s8 s9 s10 s11 s12 s13 s14 : Slot} {tl : List Slot} {x : Nat} (hd : zdec y pc = some (.aload 15, 2)) (hp : pc + 2 = p) (h : zX q d y p (s0 :: s1 :: s2 :: s3 :: s4 :: s5 :: s6 :: s7 :: s8 :: s9 :: s10 :: s11 :: s12 :: s13 :: s14 :: .val (.ref x) :: tl) (.ref x :: st) M o E) : zX q d y pc (s0 :: s1 :: s2 :: s3 :: s4 :: s5 :: s6 :: s7 :: s8 :: s9 :: s10 :: s11 :: s12 :: s13 :: s14 :: .val (.ref x) :: tl) st M o E := by
  subst hp; exact zX_step hd (by first | rfl | simp [zstep, zld]) h
theorem zX_an15 {α : Type} {q : ZQ} {d y pc p : Nat} {M : ZI} {o : Option α} {E : α → Option Value → ZI → Prop} {st : List Value} {s0 s1 s2 s3 s4 s5 s6 s7 s8 s9 s10 s11 s12 s13 s14 : Slot} {tl : List Slot} (hd : zdec y pc = some (.aload 15, 2)) (hp : pc + 2 = p) (h : zX q d y p (s0 :: s1 :: s2 :: s3 :: s4 :: s5 :: s6 :: s7 :: s8 :: s9 :: s10 :: s11 :: s12 :: s13 :: s14 :: .val .null :: tl) (.null :: st) M o E) : zX q d y pc (s0 :: s1 :: s2 :: s3 :: s4 :: s5 :: s6 :: s7 :: s8 :: s9 :: s10 :: s11 :: s12 :: s13 :: s14 :: .val .null :: tl) st M o E := by
  subst hp; exact zX_step hd (by first | rfl | simp [zstep, zld]) h
theorem zX_is15 {α : Type} {q : ZQ} {d y pc p : Nat} {M : ZI} {o : Option α} {E : α → Option Value → ZI → Prop} {st : List Value} {s0 s1 s2 s3 s4 s5 s6 s7 s8 s9 s10 s11 s12 s13 s14 : Slot} {tl : List Slot} {w : Slot} {x : Int32} (hd : zdec y pc = some (.istore 15, 2)) (hp : pc + 2 = p) (h : zX q d y p (s0 :: s1 :: s2 :: s3 :: s4 :: s5 :: s6 :: s7 :: s8 :: s9 :: s10 :: s11 :: s12 :: s13 :: s14 :: .val (.int x) :: tl) st M o E) : zX q d y pc (s0 :: s1 :: s2 :: s3 :: s4 :: s5 :: s6 :: s7 :: s8 :: s9 :: s10 :: s11 :: s12 :: s13 :: s14 :: w :: tl) (.int x :: st) M o E := by
  subst hp; exact zX_step hd (by first | rfl | simp [zstep, zst]) h
theorem zX_js15 {α : Type} {q : ZQ} {d y pc p : Nat} {M : ZI} {E : α → Option Value → ZI → Prop} {f : Int32 → Option α} {st : List Value} {s0 s1 s2 s3 s4 s5 s6 s7 s8 s9 s10 s11 s12 s13 s14 : Slot} {tl : List Slot} {w : Slot} {x : Int32} (hd : zdec y pc = some (.istore 15, 2)) (hp : pc + 2 = p) (h : ∀ x, zX q d y p (s0 :: s1 :: s2 :: s3 :: s4 :: s5 :: s6 :: s7 :: s8 :: s9 :: s10 :: s11 :: s12 :: s13 :: s14 :: .val (.int x) :: tl) st M (f x) E) : zX q d y pc (s0 :: s1 :: s2 :: s3 :: s4 :: s5 :: s6 :: s7 :: s8 :: s9 :: s10 :: s11 :: s12 :: s13 :: s14 :: w :: tl) (.int x :: st) M (zlet x f) E := by
  subst hp; exact zX_step hd (by first | rfl | simp [zstep, zst]) (h x)
theorem zX_as15 {α : Type} {q : ZQ} {d y pc p : Nat} {M : ZI} {o : Option α} {E : α → Option Value → ZI → Prop} {st : List Value} {s0 s1 s2 s3 s4 s5 s6 s7 s8 s9 s10 s11 s12 s13 s14 : Slot} {tl : List Slot} {w : Slot} {x : Nat} (hd : zdec y pc = some (.astore 15, 2)) (hp : pc + 2 = p) (h : zX q d y p (s0 :: s1 :: s2 :: s3 :: s4 :: s5 :: s6 :: s7 :: s8 :: s9 :: s10 :: s11 :: s12 :: s13 :: s14 :: .val (.ref x) :: tl) st M o E) : zX q d y pc (s0 :: s1 :: s2 :: s3 :: s4 :: s5 :: s6 :: s7 :: s8 :: s9 :: s10 :: s11 :: s12 :: s13 :: s14 :: w :: tl) (.ref x :: st) M o E := by
  subst hp; exact zX_step hd (by first | rfl | simp [zstep, zst]) h
theorem zX_ii15 {α : Type} {q : ZQ} {d y pc p : Nat} {M : ZI} {o : Option α} {E : α → Option Value → ZI → Prop} {st : List Value} {s0 s1 s2 s3 s4 s5 s6 s7 s8 s9 s10 s11 s12 s13 s14 : Slot} {tl : List Slot} {x c : Int32} {n : Int} (hd : zdec y pc = some (.iinc 15 n, 3)) (hc : Int32.ofInt n = c) (hp : pc + 3 = p) (h : zX q d y p (s0 :: s1 :: s2 :: s3 :: s4 :: s5 :: s6 :: s7 :: s8 :: s9 :: s10 :: s11 :: s12 :: s13 :: s14 :: .val (.int (x + c)) :: tl) st M o E) : zX q d y pc (s0 :: s1 :: s2 :: s3 :: s4 :: s5 :: s6 :: s7 :: s8 :: s9 :: s10 :: s11 :: s12 :: s13 :: s14 :: .val (.int x) :: tl) st M o E := by
  subst hp; subst hc; exact zX_step hd (by simp [zstep]) h
theorem zX_ic {α : Type} {q : ZQ} {d y pc p : Nat} {ls : List Slot} {st : List Value} {M : ZI} {o : Option α} {E : α → Option Value → ZI → Prop} {n : Int} {c : Int32} (hd : zdec y pc = some (.iconst n, 1)) (hc : Int32.ofInt n = c) (hp : pc + 1 = p) (h : zX q d y p ls (.int c :: st) M o E) : zX q d y pc ls st M o E := by
  subst hp; subst hc; exact zX_step hd (by simp [zstep]) h
theorem zX_bi {α : Type} {q : ZQ} {d y pc p : Nat} {ls : List Slot} {st : List Value} {M : ZI} {o : Option α} {E : α → Option Value → ZI → Prop} {n : Int} {c : Int32} (hd : zdec y pc = some (.bipush n, 2)) (hc : (Int8.ofInt n).toInt32 = c) (hp : pc + 2 = p) (h : zX q d y p ls (.int c :: st) M o E) : zX q d y pc ls st M o E := by
  subst hp; subst hc; exact zX_step hd (by simp [zstep]) h
theorem zX_si {α : Type} {q : ZQ} {d y pc p : Nat} {ls : List Slot} {st : List Value} {M : ZI} {o : Option α} {E : α → Option Value → ZI → Prop} {n : Int} {c : Int32} (hd : zdec y pc = some (.sipush n, 3)) (hc : (Int16.ofInt n).toInt32 = c) (hp : pc + 3 = p) (h : zX q d y p ls (.int c :: st) M o E) : zX q d y pc ls st M o E := by
  subst hp; subst hc; exact zX_step hd (by simp [zstep]) h
theorem zX_ldcw {α : Type} {q : ZQ} {d y pc p : Nat} {ls : List Slot} {st : List Value} {M : ZI} {o : Option α} {E : α → Option Value → ZI → Prop} {w i : Nat} {c : Int32} (hd : zdec y pc = some (.ldc_w i, 3)) (hw : zown y = w) (hc : zcon w i = some c) (hp : pc + 3 = p) (h : zX q d y p ls (.int c :: st) M o E) : zX q d y pc ls st M o E := by
  subst hp; subst hw; exact zX_step hd (by simp [zstep, hc]) h
theorem zX_ldc {α : Type} {q : ZQ} {d y pc p : Nat} {ls : List Slot} {st : List Value} {M : ZI} {o : Option α} {E : α → Option Value → ZI → Prop} {w i : Nat} {c : Int32} (hd : zdec y pc = some (.ldc i, 2)) (hw : zown y = w) (hn : zstr w i = none) (hc : zcon w i = some c) (hp : pc + 2 = p) (h : zX q d y p ls (.int c :: st) M o E) : zX q d y pc ls st M o E := by
  subst hp; subst hw; exact zX_step hd (by simp [zstep, hc, hn]) h
theorem zX_ldcs {α : Type} {q : ZQ} {d y pc p : Nat} {ls : List Slot} {st : List Value} {M : ZI} {o : Option α} {E : α → Option Value → ZI → Prop} {w i k : Nat} (hd : zdec y pc = some (.ldc i, 2)) (hw : zown y = w) (hc : zstr w i = some k) (hp : pc + 2 = p) (h : zX q d y p ls (.ref (2000000 + k) :: st) M o E) : zX q d y pc ls st M o E := by
  subst hp; subst hw; exact zX_step hd (by simp [zstep, hc]) h
theorem zX_null {α : Type} {q : ZQ} {d y pc p : Nat} {ls : List Slot} {st : List Value} {M : ZI} {o : Option α} {E : α → Option Value → ZI → Prop} (hd : zdec y pc = some (.aconst_null, 1)) (hp : pc + 1 = p) (h : zX q d y p ls (.null :: st) M o E) : zX q d y pc ls st M o E := by
  subst hp; exact zX_step hd (by simp [zstep]) h
theorem zX_add {α : Type} {q : ZQ} {d y pc p : Nat} {ls : List Slot} {st : List Value} {M : ZI} {o : Option α} {E : α → Option Value → ZI → Prop} {a b : Int32} (hd : zdec y pc = some (.iadd, 1)) (hp : pc + 1 = p) (h : zX q d y p ls (.int (a + b) :: st) M o E) : zX q d y pc ls (.int b :: .int a :: st) M o E := by
  subst hp; exact zX_step hd (by simp [zstep, zbin, zshl, zshr, zushr]) h
theorem zX_sub {α : Type} {q : ZQ} {d y pc p : Nat} {ls : List Slot} {st : List Value} {M : ZI} {o : Option α} {E : α → Option Value → ZI → Prop} {a b : Int32} (hd : zdec y pc = some (.isub, 1)) (hp : pc + 1 = p) (h : zX q d y p ls (.int (a - b) :: st) M o E) : zX q d y pc ls (.int b :: .int a :: st) M o E := by
  subst hp; exact zX_step hd (by simp [zstep, zbin, zshl, zshr, zushr]) h
theorem zX_mul {α : Type} {q : ZQ} {d y pc p : Nat} {ls : List Slot} {st : List Value} {M : ZI} {o : Option α} {E : α → Option Value → ZI → Prop} {a b : Int32} (hd : zdec y pc = some (.imul, 1)) (hp : pc + 1 = p) (h : zX q d y p ls (.int (a * b) :: st) M o E) : zX q d y pc ls (.int b :: .int a :: st) M o E := by
  subst hp; exact zX_step hd (by simp [zstep, zbin, zshl, zshr, zushr]) h
theorem zX_and {α : Type} {q : ZQ} {d y pc p : Nat} {ls : List Slot} {st : List Value} {M : ZI} {o : Option α} {E : α → Option Value → ZI → Prop} {a b : Int32} (hd : zdec y pc = some (.iand, 1)) (hp : pc + 1 = p) (h : zX q d y p ls (.int (a &&& b) :: st) M o E) : zX q d y pc ls (.int b :: .int a :: st) M o E := by
  subst hp; exact zX_step hd (by simp [zstep, zbin, zshl, zshr, zushr]) h
theorem zX_or {α : Type} {q : ZQ} {d y pc p : Nat} {ls : List Slot} {st : List Value} {M : ZI} {o : Option α} {E : α → Option Value → ZI → Prop} {a b : Int32} (hd : zdec y pc = some (.ior, 1)) (hp : pc + 1 = p) (h : zX q d y p ls (.int (a ||| b) :: st) M o E) : zX q d y pc ls (.int b :: .int a :: st) M o E := by
  subst hp; exact zX_step hd (by simp [zstep, zbin, zshl, zshr, zushr]) h
theorem zX_xor {α : Type} {q : ZQ} {d y pc p : Nat} {ls : List Slot} {st : List Value} {M : ZI} {o : Option α} {E : α → Option Value → ZI → Prop} {a b : Int32} (hd : zdec y pc = some (.ixor, 1)) (hp : pc + 1 = p) (h : zX q d y p ls (.int (a ^^^ b) :: st) M o E) : zX q d y pc ls (.int b :: .int a :: st) M o E := by
  subst hp; exact zX_step hd (by simp [zstep, zbin, zshl, zshr, zushr]) h
theorem zX_shl {α : Type} {q : ZQ} {d y pc p : Nat} {ls : List Slot} {st : List Value} {M : ZI} {o : Option α} {E : α → Option Value → ZI → Prop} {a b : Int32} (hd : zdec y pc = some (.ishl, 1)) (hp : pc + 1 = p) (h : zX q d y p ls (.int (zshl a b) :: st) M o E) : zX q d y pc ls (.int b :: .int a :: st) M o E := by
  subst hp; exact zX_step hd (by simp [zstep, zbin, zshl, zshr, zushr]) h
theorem zX_shr {α : Type} {q : ZQ} {d y pc p : Nat} {ls : List Slot} {st : List Value} {M : ZI} {o : Option α} {E : α → Option Value → ZI → Prop} {a b : Int32} (hd : zdec y pc = some (.ishr, 1)) (hp : pc + 1 = p) (h : zX q d y p ls (.int (zshr a b) :: st) M o E) : zX q d y pc ls (.int b :: .int a :: st) M o E := by
  subst hp; exact zX_step hd (by simp [zstep, zbin, zshl, zshr, zushr]) h
theorem zX_ush {α : Type} {q : ZQ} {d y pc p : Nat} {ls : List Slot} {st : List Value} {M : ZI} {o : Option α} {E : α → Option Value → ZI → Prop} {a b : Int32} (hd : zdec y pc = some (.iushr, 1)) (hp : pc + 1 = p) (h : zX q d y p ls (.int (zushr a b) :: st) M o E) : zX q d y pc ls (.int b :: .int a :: st) M o E := by
  subst hp; exact zX_step hd (by simp [zstep, zbin, zshl, zshr, zushr]) h
theorem zX_div {α : Type} {q : ZQ} {d y pc p : Nat} {ls : List Slot} {st : List Value} {M : ZI} {o : Option α} {E : α → Option Value → ZI → Prop} {a b : Int32} (hd : zdec y pc = some (.idiv, 1)) (hb : ¬ b = 0) (hp : pc + 1 = p) (h : zX q d y p ls (.int (a / b) :: st) M o E) : zX q d y pc ls (.int b :: .int a :: st) M o E := by
  subst hp; exact zX_step hd (by simp [zstep, hb, zrem]) h
theorem zX_divg {α : Type} {q : ZQ} {d y pc p : Nat} {ls : List Slot} {st : List Value} {M : ZI} {o : Option α} {E : α → Option Value → ZI → Prop} {a b : Int32} (hd : zdec y pc = some (.idiv, 1)) (hp : pc + 1 = p) (h : zX q d y p ls (.int (a / b) :: st) M o E) : zX q d y pc ls (.int b :: .int a :: st) M (if b = 0 then none else o) E := zX_ite (fun _ => zX_none) (fun hb => zX_div hd hb hp h)
theorem zX_rem {α : Type} {q : ZQ} {d y pc p : Nat} {ls : List Slot} {st : List Value} {M : ZI} {o : Option α} {E : α → Option Value → ZI → Prop} {a b : Int32} (hd : zdec y pc = some (.irem, 1)) (hb : ¬ b = 0) (hp : pc + 1 = p) (h : zX q d y p ls (.int (zrem a b) :: st) M o E) : zX q d y pc ls (.int b :: .int a :: st) M o E := by
  subst hp; exact zX_step hd (by simp [zstep, hb, zrem]) h
theorem zX_remg {α : Type} {q : ZQ} {d y pc p : Nat} {ls : List Slot} {st : List Value} {M : ZI} {o : Option α} {E : α → Option Value → ZI → Prop} {a b : Int32} (hd : zdec y pc = some (.irem, 1)) (hp : pc + 1 = p) (h : zX q d y p ls (.int (zrem a b) :: st) M o E) : zX q d y pc ls (.int b :: .int a :: st) M (if b = 0 then none else o) E := zX_ite (fun _ => zX_none) (fun hb => zX_rem hd hb hp h)
theorem zX_dup {α : Type} {q : ZQ} {d y pc p : Nat} {ls : List Slot} {st : List Value} {M : ZI} {o : Option α} {E : α → Option Value → ZI → Prop} {v : Value} (hd : zdec y pc = some (.dup, 1)) (hv : v.category = 1) (hp : pc + 1 = p) (h : zX q d y p ls (v :: v :: st) M o E) : zX q d y pc ls (v :: st) M o E := by
  subst hp; exact zX_step hd (by simp [zstep, hv]) h
theorem zX_dup2 {α : Type} {q : ZQ} {d y pc p : Nat} {ls : List Slot} {st : List Value} {M : ZI} {o : Option α} {E : α → Option Value → ZI → Prop} {v w : Value} (hd : zdec y pc = some (.dup2, 1)) (hv : v.category = 1) (hw : w.category = 1) (hp : pc + 1 = p) (h : zX q d y p ls (v :: w :: v :: w :: st) M o E) : zX q d y pc ls (v :: w :: st) M o E := by
  subst hp; exact zX_step hd (by simp [zstep, hv, hw]) h
theorem zX_pop {α : Type} {q : ZQ} {d y pc p : Nat} {ls : List Slot} {st : List Value} {M : ZI} {o : Option α} {E : α → Option Value → ZI → Prop} {v : Value} (hd : zdec y pc = some (.pop, 1)) (hv : v.category = 1) (hp : pc + 1 = p) (h : zX q d y p ls st M o E) : zX q d y pc ls (v :: st) M o E := by
  subst hp; exact zX_step hd (by simp [zstep, hv]) h
theorem zX_goto {α : Type} {q : ZQ} {d y pc p : Nat} {ls : List Slot} {st : List Value} {M : ZI} {o : Option α} {E : α → Option Value → ZI → Prop} {off : Int} (hd : zdec y pc = some (.goto off, 3)) (hp : (pc : Int) + off = (p : Int)) (h : zX q d y p ls st M o E) : zX q d y pc ls st M o E := by
  exact zX_step hd (by simp only [zstep, zto, hp, if_true]; simp) h
theorem zX_ceq {α : Type} {q : ZQ} {d y pc p1 p2 : Nat} {ls : List Slot} {st : List Value} {M : ZI} {o1 o2 : Option α} {E : α → Option Value → ZI → Prop} {off : Int} {a b : Int32} (hd : zdec y pc = some (.if_icmp .eq off, 3)) (hp : (pc : Int) + off = (p1 : Int)) (hq : pc + 3 = p2) (h1 : zX q d y p1 ls st M o1 E) (h2 : zX q d y p2 ls st M o2 E) : zX q d y pc ls (.int b :: .int a :: st) M (if a = b then o1 else o2) E := by
  subst hq
  by_cases hc : a = b
  · rw [if_pos hc]; refine zX_step hd (p := p1) ?_ h1; simp [zstep, zif, hp, zcmpB, hc, Int32.not_le, Int32.not_lt, zcmp_h1, zcmp_h2]
  · rw [if_neg hc]; refine zX_step hd (p := pc + 3) ?_ h2; simp [zstep, zif, hp, zcmpB, hc, Int32.not_le, Int32.not_lt, zcmp_h1, zcmp_h2]
theorem zX_cne {α : Type} {q : ZQ} {d y pc p1 p2 : Nat} {ls : List Slot} {st : List Value} {M : ZI} {o1 o2 : Option α} {E : α → Option Value → ZI → Prop} {off : Int} {a b : Int32} (hd : zdec y pc = some (.if_icmp .ne off, 3)) (hp : (pc : Int) + off = (p1 : Int)) (hq : pc + 3 = p2) (h1 : zX q d y p1 ls st M o1 E) (h2 : zX q d y p2 ls st M o2 E) : zX q d y pc ls (.int b :: .int a :: st) M (if a = b then o2 else o1) E := by
  subst hq
  by_cases hc : a = b
  · rw [if_pos hc]; refine zX_step hd (p := pc + 3) ?_ h2; simp [zstep, zif, hp, zcmpB, hc, Int32.not_le, Int32.not_lt, zcmp_h1, zcmp_h2]
  · rw [if_neg hc]; refine zX_step hd (p := p1) ?_ h1; simp [zstep, zif, hp, zcmpB, hc, Int32.not_le, Int32.not_lt, zcmp_h1, zcmp_h2]
theorem zX_clt {α : Type} {q : ZQ} {d y pc p1 p2 : Nat} {ls : List Slot} {st : List Value} {M : ZI} {o1 o2 : Option α} {E : α → Option Value → ZI → Prop} {off : Int} {a b : Int32} (hd : zdec y pc = some (.if_icmp .lt off, 3)) (hp : (pc : Int) + off = (p1 : Int)) (hq : pc + 3 = p2) (h1 : zX q d y p1 ls st M o1 E) (h2 : zX q d y p2 ls st M o2 E) : zX q d y pc ls (.int b :: .int a :: st) M (if a < b then o1 else o2) E := by
  subst hq
  by_cases hc : a < b
  · rw [if_pos hc]; refine zX_step hd (p := p1) ?_ h1; simp [zstep, zif, hp, zcmpB, hc, Int32.not_le, Int32.not_lt, zcmp_h1, zcmp_h2]
  · rw [if_neg hc]; refine zX_step hd (p := pc + 3) ?_ h2; simp [zstep, zif, hp, zcmpB, hc, Int32.not_le, Int32.not_lt, zcmp_h1, zcmp_h2]
theorem zX_cge {α : Type} {q : ZQ} {d y pc p1 p2 : Nat} {ls : List Slot} {st : List Value} {M : ZI} {o1 o2 : Option α} {E : α → Option Value → ZI → Prop} {off : Int} {a b : Int32} (hd : zdec y pc = some (.if_icmp .ge off, 3)) (hp : (pc : Int) + off = (p1 : Int)) (hq : pc + 3 = p2) (h1 : zX q d y p1 ls st M o1 E) (h2 : zX q d y p2 ls st M o2 E) : zX q d y pc ls (.int b :: .int a :: st) M (if a < b then o2 else o1) E := by
  subst hq
  by_cases hc : a < b
  · rw [if_pos hc]; refine zX_step hd (p := pc + 3) ?_ h2; simp [zstep, zif, hp, zcmpB, hc, Int32.not_le, Int32.not_lt, zcmp_h1, zcmp_h2]
  · rw [if_neg hc]; refine zX_step hd (p := p1) ?_ h1; simp [zstep, zif, hp, zcmpB, hc, Int32.not_le, Int32.not_lt, zcmp_h1, zcmp_h2]
theorem zX_cgt {α : Type} {q : ZQ} {d y pc p1 p2 : Nat} {ls : List Slot} {st : List Value} {M : ZI} {o1 o2 : Option α} {E : α → Option Value → ZI → Prop} {off : Int} {a b : Int32} (hd : zdec y pc = some (.if_icmp .gt off, 3)) (hp : (pc : Int) + off = (p1 : Int)) (hq : pc + 3 = p2) (h1 : zX q d y p1 ls st M o1 E) (h2 : zX q d y p2 ls st M o2 E) : zX q d y pc ls (.int b :: .int a :: st) M (if b < a then o1 else o2) E := by
  subst hq
  by_cases hc : b < a
  · rw [if_pos hc]; refine zX_step hd (p := p1) ?_ h1; simp [zstep, zif, hp, zcmpB, hc, Int32.not_le, Int32.not_lt, zcmp_h1, zcmp_h2]
  · rw [if_neg hc]; refine zX_step hd (p := pc + 3) ?_ h2; simp [zstep, zif, hp, zcmpB, hc, Int32.not_le, Int32.not_lt, zcmp_h1, zcmp_h2]
theorem zX_cle {α : Type} {q : ZQ} {d y pc p1 p2 : Nat} {ls : List Slot} {st : List Value} {M : ZI} {o1 o2 : Option α} {E : α → Option Value → ZI → Prop} {off : Int} {a b : Int32} (hd : zdec y pc = some (.if_icmp .le off, 3)) (hp : (pc : Int) + off = (p1 : Int)) (hq : pc + 3 = p2) (h1 : zX q d y p1 ls st M o1 E) (h2 : zX q d y p2 ls st M o2 E) : zX q d y pc ls (.int b :: .int a :: st) M (if b < a then o2 else o1) E := by
  subst hq
  by_cases hc : b < a
  · rw [if_pos hc]; refine zX_step hd (p := pc + 3) ?_ h2; simp [zstep, zif, hp, zcmpB, hc, Int32.not_le, Int32.not_lt, zcmp_h1, zcmp_h2]
  · rw [if_neg hc]; refine zX_step hd (p := p1) ?_ h1; simp [zstep, zif, hp, zcmpB, hc, Int32.not_le, Int32.not_lt, zcmp_h1, zcmp_h2]
theorem zX_zeq {α : Type} {q : ZQ} {d y pc p1 p2 : Nat} {ls : List Slot} {st : List Value} {M : ZI} {o1 o2 : Option α} {E : α → Option Value → ZI → Prop} {off : Int} {a : Int32} (hd : zdec y pc = some (.ifCond .eq off, 3)) (hp : (pc : Int) + off = (p1 : Int)) (hq : pc + 3 = p2) (h1 : zX q d y p1 ls st M o1 E) (h2 : zX q d y p2 ls st M o2 E) : zX q d y pc ls (.int a :: st) M (if a = 0 then o1 else o2) E := by
  subst hq
  by_cases hc : a = 0
  · rw [if_pos hc]; refine zX_step hd (p := p1) ?_ h1; simp [zstep, zif, hp, zcmpB, hc, Int32.not_le, Int32.not_lt, zcmp_h1, zcmp_h2]
  · rw [if_neg hc]; refine zX_step hd (p := pc + 3) ?_ h2; simp [zstep, zif, hp, zcmpB, hc, Int32.not_le, Int32.not_lt, zcmp_h1, zcmp_h2]
theorem zX_zne {α : Type} {q : ZQ} {d y pc p1 p2 : Nat} {ls : List Slot} {st : List Value} {M : ZI} {o1 o2 : Option α} {E : α → Option Value → ZI → Prop} {off : Int} {a : Int32} (hd : zdec y pc = some (.ifCond .ne off, 3)) (hp : (pc : Int) + off = (p1 : Int)) (hq : pc + 3 = p2) (h1 : zX q d y p1 ls st M o1 E) (h2 : zX q d y p2 ls st M o2 E) : zX q d y pc ls (.int a :: st) M (if a = 0 then o2 else o1) E := by
  subst hq
  by_cases hc : a = 0
  · rw [if_pos hc]; refine zX_step hd (p := pc + 3) ?_ h2; simp [zstep, zif, hp, zcmpB, hc, Int32.not_le, Int32.not_lt, zcmp_h1, zcmp_h2]
  · rw [if_neg hc]; refine zX_step hd (p := p1) ?_ h1; simp [zstep, zif, hp, zcmpB, hc, Int32.not_le, Int32.not_lt, zcmp_h1, zcmp_h2]
theorem zX_zlt {α : Type} {q : ZQ} {d y pc p1 p2 : Nat} {ls : List Slot} {st : List Value} {M : ZI} {o1 o2 : Option α} {E : α → Option Value → ZI → Prop} {off : Int} {a : Int32} (hd : zdec y pc = some (.ifCond .lt off, 3)) (hp : (pc : Int) + off = (p1 : Int)) (hq : pc + 3 = p2) (h1 : zX q d y p1 ls st M o1 E) (h2 : zX q d y p2 ls st M o2 E) : zX q d y pc ls (.int a :: st) M (if a < 0 then o1 else o2) E := by
  subst hq
  by_cases hc : a < 0
  · rw [if_pos hc]; refine zX_step hd (p := p1) ?_ h1; simp [zstep, zif, hp, zcmpB, hc, Int32.not_le, Int32.not_lt, zcmp_h1, zcmp_h2]
  · rw [if_neg hc]; refine zX_step hd (p := pc + 3) ?_ h2; simp [zstep, zif, hp, zcmpB, hc, Int32.not_le, Int32.not_lt, zcmp_h1, zcmp_h2]
theorem zX_zge {α : Type} {q : ZQ} {d y pc p1 p2 : Nat} {ls : List Slot} {st : List Value} {M : ZI} {o1 o2 : Option α} {E : α → Option Value → ZI → Prop} {off : Int} {a : Int32} (hd : zdec y pc = some (.ifCond .ge off, 3)) (hp : (pc : Int) + off = (p1 : Int)) (hq : pc + 3 = p2) (h1 : zX q d y p1 ls st M o1 E) (h2 : zX q d y p2 ls st M o2 E) : zX q d y pc ls (.int a :: st) M (if a < 0 then o2 else o1) E := by
  subst hq
  by_cases hc : a < 0
  · rw [if_pos hc]; refine zX_step hd (p := pc + 3) ?_ h2; simp [zstep, zif, hp, zcmpB, hc, Int32.not_le, Int32.not_lt, zcmp_h1, zcmp_h2]
  · rw [if_neg hc]; refine zX_step hd (p := p1) ?_ h1; simp [zstep, zif, hp, zcmpB, hc, Int32.not_le, Int32.not_lt, zcmp_h1, zcmp_h2]
theorem zX_zgt {α : Type} {q : ZQ} {d y pc p1 p2 : Nat} {ls : List Slot} {st : List Value} {M : ZI} {o1 o2 : Option α} {E : α → Option Value → ZI → Prop} {off : Int} {a : Int32} (hd : zdec y pc = some (.ifCond .gt off, 3)) (hp : (pc : Int) + off = (p1 : Int)) (hq : pc + 3 = p2) (h1 : zX q d y p1 ls st M o1 E) (h2 : zX q d y p2 ls st M o2 E) : zX q d y pc ls (.int a :: st) M (if 0 < a then o1 else o2) E := by
  subst hq
  by_cases hc : 0 < a
  · rw [if_pos hc]; refine zX_step hd (p := p1) ?_ h1; simp [zstep, zif, hp, zcmpB, hc, Int32.not_le, Int32.not_lt, zcmp_h1, zcmp_h2]
  · rw [if_neg hc]; refine zX_step hd (p := pc + 3) ?_ h2; simp [zstep, zif, hp, zcmpB, hc, Int32.not_le, Int32.not_lt, zcmp_h1, zcmp_h2]
theorem zX_zle {α : Type} {q : ZQ} {d y pc p1 p2 : Nat} {ls : List Slot} {st : List Value} {M : ZI} {o1 o2 : Option α} {E : α → Option Value → ZI → Prop} {off : Int} {a : Int32} (hd : zdec y pc = some (.ifCond .le off, 3)) (hp : (pc : Int) + off = (p1 : Int)) (hq : pc + 3 = p2) (h1 : zX q d y p1 ls st M o1 E) (h2 : zX q d y p2 ls st M o2 E) : zX q d y pc ls (.int a :: st) M (if 0 < a then o2 else o1) E := by
  subst hq
  by_cases hc : 0 < a
  · rw [if_pos hc]; refine zX_step hd (p := pc + 3) ?_ h2; simp [zstep, zif, hp, zcmpB, hc, Int32.not_le, Int32.not_lt, zcmp_h1, zcmp_h2]
  · rw [if_neg hc]; refine zX_step hd (p := p1) ?_ h1; simp [zstep, zif, hp, zcmpB, hc, Int32.not_le, Int32.not_lt, zcmp_h1, zcmp_h2]
theorem zX_nn_ref {α : Type} {q : ZQ} {d y pc p : Nat} {ls : List Slot} {st : List Value} {M : ZI} {o : Option α} {E : α → Option Value → ZI → Prop} {off : Int} {x : Nat} (hd : zdec y pc = some (.ifnonnull off, 3)) (hp : (pc : Int) + off = (p : Int)) (h : zX q d y p ls st M o E) : zX q d y pc ls (.ref x :: st) M o E := by
  exact zX_step hd (by simp only [zstep, zto, hp, if_true]; simp) h
theorem zX_nu_ref {α : Type} {q : ZQ} {d y pc p : Nat} {ls : List Slot} {st : List Value} {M : ZI} {o : Option α} {E : α → Option Value → ZI → Prop} {off : Int} {x : Nat} (hd : zdec y pc = some (.ifnull off, 3)) (hp : pc + 3 = p) (h : zX q d y p ls st M o E) : zX q d y pc ls (.ref x :: st) M o E := by
  subst hp; exact zX_step hd (by simp [zstep]) h
theorem zX_nn_null {α : Type} {q : ZQ} {d y pc p : Nat} {ls : List Slot} {st : List Value} {M : ZI} {o : Option α} {E : α → Option Value → ZI → Prop} {off : Int} (hd : zdec y pc = some (.ifnonnull off, 3)) (hp : pc + 3 = p) (h : zX q d y p ls st M o E) : zX q d y pc ls (.null :: st) M o E := by
  subst hp; exact zX_step hd (by simp [zstep]) h
theorem zX_nu_null {α : Type} {q : ZQ} {d y pc p : Nat} {ls : List Slot} {st : List Value} {M : ZI} {o : Option α} {E : α → Option Value → ZI → Prop} {off : Int} (hd : zdec y pc = some (.ifnull off, 3)) (hp : (pc : Int) + off = (p : Int)) (h : zX q d y p ls st M o E) : zX q d y pc ls (.null :: st) M o E := by
  exact zX_step hd (by simp only [zstep, zto, hp, if_true]; simp) h
theorem zne_i {x c : Int32} {n : Int} (hc : c.toInt = n) (h : ¬ x = c) : ¬ x.toInt = n := fun e => h (Int32.toInt_inj.mp (e.trans hc.symm))
theorem zX_tsh {α : Type} {q : ZQ} {d y pc p : Nat} {ls : List Slot} {st : List Value} {M : ZI} {o : Option α} {E : α → Option Value → ZI → Prop} {d0 lo hi : Int} {offs : Array Int} {len : Nat} {x c : Int32} {off n : Int} (hd : zdec y pc = some (.tableswitch d0 lo hi offs, len)) (hx : x = c) (hc : c.toInt = n) (h1 : lo ≤ n) (h2 : n ≤ hi) (ho : offs[(n - lo).toNat]? = some off) (hp : (pc : Int) + off = (p : Int)) (h : zX q d y p ls st M o E) : zX q d y pc ls (.int x :: st) M o E := by
  subst hx
  refine zX_step hd ?_ h
  have h3 : ¬ (x.toInt < lo ∨ hi < x.toInt) := by rw [hc]; omega
  simp only [zstep]
  rw [if_neg h3, hc, ho]
  simp [zto, hp]
theorem zX_tsd {α : Type} {q : ZQ} {d y pc p : Nat} {ls : List Slot} {st : List Value} {M : ZI} {o : Option α} {E : α → Option Value → ZI → Prop} {d0 lo hi : Int} {offs : Array Int} {len : Nat} {x : Int32} (hd : zdec y pc = some (.tableswitch d0 lo hi offs, len)) (hx : x.toInt < lo ∨ hi < x.toInt) (hp : (pc : Int) + d0 = (p : Int)) (h : zX q d y p ls st M o E) : zX q d y pc ls (.int x :: st) M o E := by
  refine zX_step hd ?_ h
  simp only [zstep]
  rw [if_pos hx]
  simp [zto, hp]
theorem zX_gi {α : Type} {q : ZQ} {d y pc p : Nat} {ls : List Slot} {st : List Value} {M : ZI} {o : Option α} {E : α → Option Value → ZI → Prop} {ix w c k a : Nat} (hd : zdec y pc = some (.getfield ix, 3)) (hw : zown y = w) (hf : zfld w ix = some (c, k) ∧ k < zN c ∧ zfk c k = 0 ∧ zfin c k = false) (ho : zOb c a) (hp : pc + 3 = p) (h : zX q d y p ls (.int (M a k) :: st) M o E) : zX q d y pc ls (.ref a :: st) M o E := by
  subst hp; subst hw; exact zX_step hd (by simp [zstep, zget, hf.1, hf.2, ho.1, (zL_app (X := q.2.2) ho.2)]) h
theorem zX_gib {α : Type} {q : ZQ} {d y pc p : Nat} {ls : List Slot} {st : List Value} {M : ZI} {o : Option α} {E : α → Option Value → ZI → Prop} {ix w c k a : Nat} (hd : zdec y pc = some (.getfield ix, 3)) (hw : zown y = w) (hf : zfld w ix = some (c, k) ∧ k < zN c ∧ zfk c k = 1 ∧ zfin c k = false) (ho : zOb c a) (hp : pc + 3 = p) (h : zX q d y p ls (.int (M a k) :: st) M o E) : zX q d y pc ls (.ref a :: st) M o E := by
  subst hp; subst hw; exact zX_step hd (by simp [zstep, zget, hf.1, hf.2, ho.1, (zL_app (X := q.2.2) ho.2)]) h
theorem zX_gr {α : Type} {q : ZQ} {d y pc p : Nat} {ls : List Slot} {st : List Value} {M : ZI} {o : Option α} {E : α → Option Value → ZI → Prop} {ix w c k a b : Nat} (hd : zdec y pc = some (.getfield ix, 3)) (hw : zown y = w) (hf : zfld w ix = some (c, k) ∧ k < zN c ∧ zfk c k = 2) (ho : zOb c a) (hr : q.2.1 a k = some b) (hp : pc + 3 = p) (h : zX q d y p ls (.ref b :: st) M o E) : zX q d y pc ls (.ref a :: st) M o E := by
  subst hp; subst hw; exact zX_step hd (by simp [zstep, zget, hf.1, hf.2, ho.1, (zL_app (X := q.2.2) ho.2), hr, va_rf]) h
theorem zX_pi {α : Type} {q : ZQ} {d y pc p : Nat} {ls : List Slot} {st : List Value} {M : ZI} {E : α → Option Value → ZI → Prop} {f : ZI → Option α} {ix w c k a : Nat} {x : Int32} (hd : zdec y pc = some (.putfield ix, 3)) (hw : zown y = w) (hf : zfld w ix = some (c, k) ∧ k < zN c ∧ zfk c k = 0 ∧ zfin c k = false) (ho : zOb c a) (hp : pc + 3 = p) (h : ∀ M, zX q d y p ls st M (f M) E) : zX q d y pc ls (.int x :: .ref a :: st) M (zlet (zs M a k x) f) E := by
  subst hp; subst hw; exact zX_step hd (by simp [zstep, zput, zfo, hf.1, hf.2, ho.1, (zL_app (X := q.2.2) ho.2), zs]) (h _)
theorem zX_pb {α : Type} {q : ZQ} {d y pc p : Nat} {ls : List Slot} {st : List Value} {M : ZI} {E : α → Option Value → ZI → Prop} {f : ZI → Option α} {ix w c k a : Nat} {x : Int32} (hd : zdec y pc = some (.putfield ix, 3)) (hw : zown y = w) (hf : zfld w ix = some (c, k) ∧ k < zN c ∧ zfk c k = 1 ∧ zfin c k = false) (hx : x = 0 ∨ x = 1) (ho : zOb c a) (hp : pc + 3 = p) (h : ∀ M, zX q d y p ls st M (f M) E) : zX q d y pc ls (.int x :: .ref a :: st) M (zlet (zs M a k x) f) E := by
  subst hp; subst hw; exact zX_step hd (by simp [zstep, zput, zfo, hf.1, hf.2, ho.1, (zL_app (X := q.2.2) ho.2), zs, hx]) (h _)
theorem zX_ia {α : Type} {q : ZQ} {d y pc p : Nat} {ls : List Slot} {st : List Value} {M : ZI} {o : Option α} {E : α → Option Value → ZI → Prop} {a n : Nat} {i : Int32} (hd : zdec y pc = some (.iaload, 1)) (ha : zAr a n) (hp : pc + 1 = p) (hi : zin i n = true) (h : zX q d y p ls (.int (M a (zi i)) :: st) M o E) : zX q d y pc ls (.int i :: .ref a :: st) M o E := by
  subst hp
  have hi := of_decide_eq_true hi
  have hm : ¬ a = 1000000 := by have := ha.1; omega
  exact zX_step hd (by simp only [zstep, zald, if_true, if_neg hm, if_pos ha.1, (zL_app (X := q.2.2) ha.2)]; rw [if_pos ⟨by decide, hi⟩]; rfl) h
theorem zX_iag {α : Type} {q : ZQ} {d y pc p : Nat} {ls : List Slot} {st : List Value} {M : ZI} {o : Option α} {E : α → Option Value → ZI → Prop} {a n : Nat} {i : Int32} (hd : zdec y pc = some (.iaload, 1)) (ha : zAr a n) (hp : pc + 1 = p) (h : zX q d y p ls (.int (M a (zi i)) :: st) M o E) : zX q d y pc ls (.int i :: .ref a :: st) M (if zin i n = true then o else none) E := zX_grd (fun hi => zX_ia hd ha hp hi h)
theorem zX_iac {α : Type} {q : ZQ} {d y pc p : Nat} {ls : List Slot} {st : List Value} {M : ZI} {o : Option α} {E : α → Option Value → ZI → Prop} {a n j : Nat} {i : Int32} (hd : zdec y pc = some (.iaload, 1)) (ha : zAr a n) (hp : pc + 1 = p) (hi : zin i n = true) (hj : zi i = j) (h : zX q d y p ls (.int (M a j) :: st) M o E) : zX q d y pc ls (.int i :: .ref a :: st) M o E := by
  subst hj; exact zX_ia hd ha hp hi h
theorem zX_ba {α : Type} {q : ZQ} {d y pc p : Nat} {ls : List Slot} {st : List Value} {M : ZI} {o : Option α} {E : α → Option Value → ZI → Prop} {a n : Nat} {i : Int32} (hd : zdec y pc = some (.baload, 1)) (ha : zBr a n) (hp : pc + 1 = p) (hi : zin i n = true) (h : zX q d y p ls (.int (M a (zi i)) :: st) M o E) : zX q d y pc ls (.int i :: .ref a :: st) M o E := by
  subst hp
  have hi := of_decide_eq_true hi
  have hm : ¬ a = 1000000 := by have := ha.1; omega
  exact zX_step hd (by simp only [zstep, zald, if_true, if_neg hm, if_pos ha.1, (zL_app (X := q.2.2) ha.2)]; rw [if_pos ⟨by decide, hi⟩]; rfl) h
theorem zX_bag {α : Type} {q : ZQ} {d y pc p : Nat} {ls : List Slot} {st : List Value} {M : ZI} {o : Option α} {E : α → Option Value → ZI → Prop} {a n : Nat} {i : Int32} (hd : zdec y pc = some (.baload, 1)) (ha : zBr a n) (hp : pc + 1 = p) (h : zX q d y p ls (.int (M a (zi i)) :: st) M o E) : zX q d y pc ls (.int i :: .ref a :: st) M (if zin i n = true then o else none) E := zX_grd (fun hi => zX_ba hd ha hp hi h)
theorem zX_bac {α : Type} {q : ZQ} {d y pc p : Nat} {ls : List Slot} {st : List Value} {M : ZI} {o : Option α} {E : α → Option Value → ZI → Prop} {a n j : Nat} {i : Int32} (hd : zdec y pc = some (.baload, 1)) (ha : zBr a n) (hp : pc + 1 = p) (hi : zin i n = true) (hj : zi i = j) (h : zX q d y p ls (.int (M a j) :: st) M o E) : zX q d y pc ls (.int i :: .ref a :: st) M o E := by
  subst hj; exact zX_ba hd ha hp hi h
theorem zX_it {α : Type} {q : ZQ} {d y pc p : Nat} {ls : List Slot} {st : List Value} {M : ZI} {E : α → Option Value → ZI → Prop} {f : ZI → Option α} {a n : Nat} {i x : Int32} (hd : zdec y pc = some (.iastore, 1)) (ha : zAr a n) (hp : pc + 1 = p) (hi : zin i n = true) (h : ∀ M, zX q d y p ls st M (f M) E) : zX q d y pc ls (.int x :: .int i :: .ref a :: st) M (zlet (zs M a (zi i) x) f) E := by
  subst hp
  have hi := of_decide_eq_true hi
  exact zX_step hd (by simp only [zstep, zast, if_true, (zL_app (X := q.2.2) ha.2)]; rw [if_pos ⟨by decide, by decide, hi⟩]; rfl) (h _)
theorem zX_itg {α : Type} {q : ZQ} {d y pc p : Nat} {ls : List Slot} {st : List Value} {M : ZI} {E : α → Option Value → ZI → Prop} {f : ZI → Option α} {a n : Nat} {i x : Int32} (hd : zdec y pc = some (.iastore, 1)) (ha : zAr a n) (hp : pc + 1 = p) (h : ∀ M, zX q d y p ls st M (f M) E) : zX q d y pc ls (.int x :: .int i :: .ref a :: st) M (if zin i n = true then zlet (zs M a (zi i) x) f else none) E := zX_grd (fun hi => zX_it hd ha hp hi h)
theorem zX_itc {α : Type} {q : ZQ} {d y pc p : Nat} {ls : List Slot} {st : List Value} {M : ZI} {E : α → Option Value → ZI → Prop} {f : ZI → Option α} {a n j : Nat} {i x : Int32} (hd : zdec y pc = some (.iastore, 1)) (ha : zAr a n) (hp : pc + 1 = p) (hi : zin i n = true) (hj : zi i = j) (h : ∀ M, zX q d y p ls st M (f M) E) : zX q d y pc ls (.int x :: .int i :: .ref a :: st) M (zlet (zs M a j x) f) E := by
  subst hj; exact zX_it hd ha hp hi h
theorem zX_bt {α : Type} {q : ZQ} {d y pc p : Nat} {ls : List Slot} {st : List Value} {M : ZI} {E : α → Option Value → ZI → Prop} {f : ZI → Option α} {a n : Nat} {i x : Int32} (hd : zdec y pc = some (.bastore, 1)) (ha : zBr a n) (hp : pc + 1 = p) (hi : zin i n = true) (h : ∀ M, zX q d y p ls st M (f M) E) : zX q d y pc ls (.int x :: .int i :: .ref a :: st) M (zlet (zs M a (zi i) (zbo x)) f) E := by
  subst hp
  have hi := of_decide_eq_true hi
  exact zX_step hd (by simp only [zstep, zast, if_true, (zL_app (X := q.2.2) ha.2)]; rw [if_pos ⟨by decide, by decide, hi⟩]; rfl) (h _)
theorem zX_btg {α : Type} {q : ZQ} {d y pc p : Nat} {ls : List Slot} {st : List Value} {M : ZI} {E : α → Option Value → ZI → Prop} {f : ZI → Option α} {a n : Nat} {i x : Int32} (hd : zdec y pc = some (.bastore, 1)) (ha : zBr a n) (hp : pc + 1 = p) (h : ∀ M, zX q d y p ls st M (f M) E) : zX q d y pc ls (.int x :: .int i :: .ref a :: st) M (if zin i n = true then zlet (zs M a (zi i) (zbo x)) f else none) E := zX_grd (fun hi => zX_bt hd ha hp hi h)
theorem zX_btc {α : Type} {q : ZQ} {d y pc p : Nat} {ls : List Slot} {st : List Value} {M : ZI} {E : α → Option Value → ZI → Prop} {f : ZI → Option α} {a n j : Nat} {i x : Int32} (hd : zdec y pc = some (.bastore, 1)) (ha : zBr a n) (hp : pc + 1 = p) (hi : zin i n = true) (hj : zi i = j) (h : ∀ M, zX q d y p ls st M (f M) E) : zX q d y pc ls (.int x :: .int i :: .ref a :: st) M (zlet (zs M a j (zbo x)) f) E := by
  subst hj; exact zX_bt hd ha hp hi h
theorem zX_aa {α : Type} {q : ZQ} {d y pc p : Nat} {ls : List Slot} {st : List Value} {M : ZI} {o : Option α} {E : α → Option Value → ZI → Prop} {a n b : Nat} {i : Int32} (hd : zdec y pc = some (.aaload, 1)) (ha : a < 1000000 ∧ zHc[a]? = some (2, n)) (hp : pc + 1 = p) (hi : zin i n = true) (hr : q.2.1 a (zi i) = some b) (h : zX q d y p ls (.ref b :: st) M o E) : zX q d y pc ls (.int i :: .ref a :: st) M o E := by
  subst hp
  have hi := of_decide_eq_true hi
  have hm : ¬ a = 1000000 := by have := ha.1; omega
  exact zX_step hd (by simp only [zstep, zald, if_true, if_neg hm, if_pos ha.1, (zL_app (X := q.2.2) ha.2)]; rw [if_pos ⟨by decide, hi⟩]; simp only [zi] at hr; rw [hr]; rfl) h
theorem zX_sa {α : Type} {q : ZQ} {d y pc p : Nat} {ls : List Slot} {st : List Value} {M : ZI} {o : Option α} {E : α → Option Value → ZI → Prop} {i : Int32} (hd : zdec y pc = some (.iaload, 1)) (hp : pc + 1 = p) (h : zX q d y p ls (.int (q.1.2 (zi i)) :: st) M o E) : zX q d y pc ls (.int i :: .ref 1000000 :: st) M (if zin i q.1.1 = true then o else none) E := by
  subst hp
  refine zX_grd (fun hi => ?_)
  have hi := of_decide_eq_true hi
  exact zX_step hd (by simp only [zstep, zald, if_true]; rw [if_pos ⟨by decide, hi⟩]; rfl) h
theorem zX_sl {α : Type} {q : ZQ} {d y pc p : Nat} {ls : List Slot} {st : List Value} {M : ZI} {o : Option α} {E : α → Option Value → ZI → Prop} (hd : zdec y pc = some (.arraylength, 1)) (hp : pc + 1 = p) (h : zX q d y p ls (.int (Int32.ofNat q.1.1) :: st) M o E) : zX q d y pc ls (.ref 1000000 :: st) M o E := by
  subst hp
  exact zX_step hd (by simp [zstep, zlen]) h
theorem zX_len {α : Type} {q : ZQ} {d y pc p : Nat} {ls : List Slot} {st : List Value} {M : ZI} {o : Option α} {E : α → Option Value → ZI → Prop} {a n : Nat} (hd : zdec y pc = some (.arraylength, 1)) (ha : zAr a n) (hp : pc + 1 = p) (h : zX q d y p ls (.int (Int32.ofNat n) :: st) M o E) : zX q d y pc ls (.ref a :: st) M o E := by
  subst hp
  have hm : ¬ a = 1000000 := by have := ha.1; omega
  exact zX_step hd (by simp [zstep, zlen, ha.1, (zL_app (X := q.2.2) ha.2), hm, show zarr 0 = true from rfl]) h
theorem zX_cpy {α : Type} {q : ZQ} {d y pc p : Nat} {ls : List Slot} {st : List Value} {M : ZI} {E : α → Option Value → ZI → Prop} {f : ZI → Option α} {ix w a b na nb sn dn nn : Nat} {sp dp n : Int32} (hd : zdec y pc = some (.invokestatic ix, 3)) (hw : zown y = w) (hr : zres w ix = some 1000) (ha : zAr a na) (hb : zAr b nb) (h1 : ¬ sp < 0 ∧ ¬ dp < 0 ∧ ¬ n < 0) (h2 : sp.toNatClampNeg = sn ∧ dp.toNatClampNeg = dn ∧ n.toNatClampNeg = nn) (h3 : sn + nn ≤ nb ∧ dn + nn ≤ na) (hz : zroom st = true) (hp : pc + 3 = p) (h : ∀ M, zX q d y p ls st M (f M) E) : zX q d y pc ls (.int n :: .int dp :: .ref a :: .int sp :: .ref b :: st) M (zlet (zc M a b sn dn nn) f) E := by
  subst hp; subst hw
  obtain ⟨rfl, rfl, rfl⟩ := h2
  exact zX_step hd (by simp only [zstep, zcallS, hr, if_true, zcpy, (zL_app (X := q.2.2) ha.2), (zL_app (X := q.2.2) hb.2)]; rw [if_pos hb.1, if_pos ⟨Or.inl ⟨trivial, trivial⟩, h1.1, h1.2.1, h1.2.2, h3.1, h3.2, hz⟩]; rfl) (h _)
theorem zX_max {α : Type} {q : ZQ} {d y pc p : Nat} {ls : List Slot} {st : List Value} {M : ZI} {o : Option α} {E : α → Option Value → ZI → Prop} {ix w : Nat} {a b : Int32} (hd : zdec y pc = some (.invokestatic ix, 3)) (hw : zown y = w) (hr : zres w ix = some 1001) (hz : zroom st = true) (hp : pc + 3 = p) (h : zX q d y p ls (.int (zmax a b) :: st) M o E) : zX q d y pc ls (.int b :: .int a :: st) M o E := by
  subst hp; subst hw; exact zX_step hd (by simp [zstep, zcallS, hr, hz, zmax, zmin]) h
theorem zX_min {α : Type} {q : ZQ} {d y pc p : Nat} {ls : List Slot} {st : List Value} {M : ZI} {o : Option α} {E : α → Option Value → ZI → Prop} {ix w : Nat} {a b : Int32} (hd : zdec y pc = some (.invokestatic ix, 3)) (hw : zown y = w) (hr : zres w ix = some 1002) (hz : zroom st = true) (hp : pc + 3 = p) (h : zX q d y p ls (.int (zmin a b) :: st) M o E) : zX q d y pc ls (.int b :: .int a :: st) M o E := by
  subst hp; subst hw; exact zX_step hd (by simp [zstep, zcallS, hr, hz, zmax, zmin]) h
theorem zX_reti {q : ZQ} {d y pc : Nat} {ls : List Slot} {M : ZI} {v : Int32} (hd : zdec y pc = some (.ireturn, 1)) (hr : zret y = some .int) : zX q d y pc ls [.int v] M (some v) (zEi M) := by
  intro a ha r M' he
  cases ha
  obtain ⟨rfl, rfl⟩ := he
  exact ⟨1, by simp [zrun, hd, zstep, hr]⟩
theorem zX_retib {q : ZQ} {d y pc : Nat} {ls : List Slot} {M : ZI} {v : Int32} (hd : zdec y pc = some (.ireturn, 1)) (hr : zret y = some .boolean) (hv : v = 0 ∨ v = 1) : zX q d y pc ls [.int v] M (some v) (zEi M) := by
  intro a ha r M' he
  cases ha
  obtain ⟨rfl, rfl⟩ := he
  have hn : narrow .boolean (.int v) = .int v := by rcases hv with rfl | rfl <;> rfl
  exact ⟨1, by simp [zrun, hd, zstep, hr, hn]⟩
theorem zX_retig {q : ZQ} {d y pc : Nat} {ls : List Slot} {M : ZI} {v : Int32} (hd : zdec y pc = some (.ireturn, 1)) (hr : zret y = some .boolean) : zX q d y pc ls [.int v] M (if zbl v = true then some v else none) (zEi M) := zX_grd (fun hv => zX_retib hd hr (of_decide_eq_true hv))
theorem zX_retm {q : ZQ} {d y pc : Nat} {ls : List Slot} {M : ZI} {v : Int32} (hd : zdec y pc = some (.ireturn, 1)) (hr : zret y = some .int) : zX q d y pc ls [.int v] M (some (v, M)) (zEm) := by
  intro a ha r M' he
  cases ha
  obtain ⟨rfl, rfl⟩ := he
  exact ⟨1, by simp [zrun, hd, zstep, hr]⟩
theorem zX_retmb {q : ZQ} {d y pc : Nat} {ls : List Slot} {M : ZI} {v : Int32} (hd : zdec y pc = some (.ireturn, 1)) (hr : zret y = some .boolean) (hv : v = 0 ∨ v = 1) : zX q d y pc ls [.int v] M (some (v, M)) (zEm) := by
  intro a ha r M' he
  cases ha
  obtain ⟨rfl, rfl⟩ := he
  have hn : narrow .boolean (.int v) = .int v := by rcases hv with rfl | rfl <;> rfl
  exact ⟨1, by simp [zrun, hd, zstep, hr, hn]⟩
theorem zX_retmg {q : ZQ} {d y pc : Nat} {ls : List Slot} {M : ZI} {v : Int32} (hd : zdec y pc = some (.ireturn, 1)) (hr : zret y = some .boolean) : zX q d y pc ls [.int v] M (if zbl v = true then some (v, M) else none) (zEm) := zX_grd (fun hv => zX_retmb hd hr (of_decide_eq_true hv))
theorem zX_retv {q : ZQ} {d y pc : Nat} {ls : List Slot} {M : ZI} (hd : zdec y pc = some (.return_, 1)) (hr : zret y = none) : zX q d y pc ls [] M (some M) zEv := by
  intro a ha r M' he
  cases ha
  obtain ⟨rfl, rfl⟩ := he
  exact ⟨1, by simp [zrun, hd, zstep, hr]⟩
theorem zX_cS0i {α : Type} {q : ZQ} {d y pc p ix w k : Nat} {ls l0 : List Slot} {st : List Value} {M : ZI} {o1 : Option Int32} {f : Int32 → Option α} {E : α → Option Value → ZI → Prop} {m : Nat} (hd : zdec y pc = some (.invokestatic ix, 3)) (hw : zown y = w) (hr : zres w ix = some k) (hk : k < 152 ∧ zkind k = 0 ∧ znar k = 0 ∧ zml k = m) (hm : Nat.ble 0 m = true) (hE : zX q d k 0 l0 [] M o1 (zEi M)) (hc : zcats (st) = true) (hz : zroom st = true) (hl : zent m [] = l0) (hp : pc + 3 = p) (h : ∀ v, zX q (d + 1) y p ls (.int v :: st) M (f v) E) : zX q (d + 1) y pc ls (st) M (o1.bind f) E := by
  obtain rfl := hk.2.2.2
  subst hp; subst hw; subst hl
  intro b hb r M' he
  cases o1 with
  | none => cases hb
  | some v =>
    refine zEnds_call (k := k) (as := []) (rest := st) (r1 := (some (.int v))) (M1 := M) hd ?_ (Nat.le_of_ble_eq_true hm) (hE v rfl _ _ ⟨rfl, rfl⟩) ?_
    · simp only [zstep, zcallS, if_true, hr]; rw [if_neg (by omega), if_neg (by omega), if_neg (by omega), if_pos ⟨hk.1, hk.2.1, by rw [hk.2.2.1]; simp, hc, by rw [hk.2.2.1]; exact hz⟩, hk.2.2.1]; rfl
    · exact h v b hb r M' he
theorem zX_cS0m {α : Type} {q : ZQ} {d y pc p ix w k : Nat} {ls l0 : List Slot} {st : List Value} {M : ZI} {o1 : Option (Int32 × ZI)} {f : Int32 × ZI → Option α} {E : α → Option Value → ZI → Prop} {m : Nat} (hd : zdec y pc = some (.invokestatic ix, 3)) (hw : zown y = w) (hr : zres w ix = some k) (hk : k < 152 ∧ zkind k = 0 ∧ znar k = 0 ∧ zml k = m) (hm : Nat.ble 0 m = true) (hE : zX q d k 0 l0 [] M o1 zEm) (hc : zcats (st) = true) (hz : zroom st = true) (hl : zent m [] = l0) (hp : pc + 3 = p) (h : ∀ v M, zX q (d + 1) y p ls (.int v :: st) M (f (v, M)) E) : zX q (d + 1) y pc ls (st) M (o1.bind f) E := by
  obtain rfl := hk.2.2.2
  subst hp; subst hw; subst hl
  intro b hb r M' he
  cases o1 with
  | none => cases hb
  | some v =>
    refine zEnds_call (k := k) (as := []) (rest := st) (r1 := (some (.int v.1))) (M1 := v.2) hd ?_ (Nat.le_of_ble_eq_true hm) (hE v rfl _ _ ⟨rfl, rfl⟩) ?_
    · simp only [zstep, zcallS, if_true, hr]; rw [if_neg (by omega), if_neg (by omega), if_neg (by omega), if_pos ⟨hk.1, hk.2.1, by rw [hk.2.2.1]; simp, hc, by rw [hk.2.2.1]; exact hz⟩, hk.2.2.1]; rfl
    · exact h v.1 v.2 b hb r M' he
theorem zX_cS0v {α : Type} {q : ZQ} {d y pc p ix w k : Nat} {ls l0 : List Slot} {st : List Value} {M : ZI} {o1 : Option ZI} {f : ZI → Option α} {E : α → Option Value → ZI → Prop} {m : Nat} (hd : zdec y pc = some (.invokestatic ix, 3)) (hw : zown y = w) (hr : zres w ix = some k) (hk : k < 152 ∧ zkind k = 0 ∧ znar k = 0 ∧ zml k = m) (hm : Nat.ble 0 m = true) (hE : zX q d k 0 l0 [] M o1 zEv) (hc : zcats (st) = true) (hz : zroom st = true) (hl : zent m [] = l0) (hp : pc + 3 = p) (h : ∀ M, zX q (d + 1) y p ls st M (f M) E) : zX q (d + 1) y pc ls (st) M (o1.bind f) E := by
  obtain rfl := hk.2.2.2
  subst hp; subst hw; subst hl
  intro b hb r M' he
  cases o1 with
  | none => cases hb
  | some v =>
    refine zEnds_call (k := k) (as := []) (rest := st) (r1 := none) (M1 := v) hd ?_ (Nat.le_of_ble_eq_true hm) (hE v rfl _ _ ⟨rfl, rfl⟩) ?_
    · simp only [zstep, zcallS, if_true, hr]; rw [if_neg (by omega), if_neg (by omega), if_neg (by omega), if_pos ⟨hk.1, hk.2.1, by rw [hk.2.2.1]; simp, hc, by rw [hk.2.2.1]; exact hz⟩, hk.2.2.1]; rfl
    · exact h v b hb r M' he
theorem zX_cS1i {α : Type} {q : ZQ} {d y pc p ix w k : Nat} {ls l0 : List Slot} {st : List Value} {M : ZI} {o1 : Option Int32} {f : Int32 → Option α} {E : α → Option Value → ZI → Prop} {m : Nat} {v1 : Value} (hd : zdec y pc = some (.invokestatic ix, 3)) (hw : zown y = w) (hr : zres w ix = some k) (hk : k < 152 ∧ zkind k = 0 ∧ znar k = 1 ∧ zml k = m) (hm : Nat.ble 1 m = true) (hE : zX q d k 0 l0 [] M o1 (zEi M)) (hc : zcats (v1 :: st) = true) (hz : zroom st = true) (hl : zent m [v1] = l0) (hp : pc + 3 = p) (h : ∀ v, zX q (d + 1) y p ls (.int v :: st) M (f v) E) : zX q (d + 1) y pc ls (v1 :: st) M (o1.bind f) E := by
  obtain rfl := hk.2.2.2
  subst hp; subst hw; subst hl
  intro b hb r M' he
  cases o1 with
  | none => cases hb
  | some v =>
    refine zEnds_call (k := k) (as := [v1]) (rest := st) (r1 := (some (.int v))) (M1 := M) hd ?_ (Nat.le_of_ble_eq_true hm) (hE v rfl _ _ ⟨rfl, rfl⟩) ?_
    · simp only [zstep, zcallS, if_true, hr]; rw [if_neg (by omega), if_neg (by omega), if_neg (by omega), if_pos ⟨hk.1, hk.2.1, by rw [hk.2.2.1]; simp, hc, by rw [hk.2.2.1]; exact hz⟩, hk.2.2.1]; rfl
    · exact h v b hb r M' he
theorem zX_cS1m {α : Type} {q : ZQ} {d y pc p ix w k : Nat} {ls l0 : List Slot} {st : List Value} {M : ZI} {o1 : Option (Int32 × ZI)} {f : Int32 × ZI → Option α} {E : α → Option Value → ZI → Prop} {m : Nat} {v1 : Value} (hd : zdec y pc = some (.invokestatic ix, 3)) (hw : zown y = w) (hr : zres w ix = some k) (hk : k < 152 ∧ zkind k = 0 ∧ znar k = 1 ∧ zml k = m) (hm : Nat.ble 1 m = true) (hE : zX q d k 0 l0 [] M o1 zEm) (hc : zcats (v1 :: st) = true) (hz : zroom st = true) (hl : zent m [v1] = l0) (hp : pc + 3 = p) (h : ∀ v M, zX q (d + 1) y p ls (.int v :: st) M (f (v, M)) E) : zX q (d + 1) y pc ls (v1 :: st) M (o1.bind f) E := by
  obtain rfl := hk.2.2.2
  subst hp; subst hw; subst hl
  intro b hb r M' he
  cases o1 with
  | none => cases hb
  | some v =>
    refine zEnds_call (k := k) (as := [v1]) (rest := st) (r1 := (some (.int v.1))) (M1 := v.2) hd ?_ (Nat.le_of_ble_eq_true hm) (hE v rfl _ _ ⟨rfl, rfl⟩) ?_
    · simp only [zstep, zcallS, if_true, hr]; rw [if_neg (by omega), if_neg (by omega), if_neg (by omega), if_pos ⟨hk.1, hk.2.1, by rw [hk.2.2.1]; simp, hc, by rw [hk.2.2.1]; exact hz⟩, hk.2.2.1]; rfl
    · exact h v.1 v.2 b hb r M' he
theorem zX_cS1v {α : Type} {q : ZQ} {d y pc p ix w k : Nat} {ls l0 : List Slot} {st : List Value} {M : ZI} {o1 : Option ZI} {f : ZI → Option α} {E : α → Option Value → ZI → Prop} {m : Nat} {v1 : Value} (hd : zdec y pc = some (.invokestatic ix, 3)) (hw : zown y = w) (hr : zres w ix = some k) (hk : k < 152 ∧ zkind k = 0 ∧ znar k = 1 ∧ zml k = m) (hm : Nat.ble 1 m = true) (hE : zX q d k 0 l0 [] M o1 zEv) (hc : zcats (v1 :: st) = true) (hz : zroom st = true) (hl : zent m [v1] = l0) (hp : pc + 3 = p) (h : ∀ M, zX q (d + 1) y p ls st M (f M) E) : zX q (d + 1) y pc ls (v1 :: st) M (o1.bind f) E := by
  obtain rfl := hk.2.2.2
  subst hp; subst hw; subst hl
  intro b hb r M' he
  cases o1 with
  | none => cases hb
  | some v =>
    refine zEnds_call (k := k) (as := [v1]) (rest := st) (r1 := none) (M1 := v) hd ?_ (Nat.le_of_ble_eq_true hm) (hE v rfl _ _ ⟨rfl, rfl⟩) ?_
    · simp only [zstep, zcallS, if_true, hr]; rw [if_neg (by omega), if_neg (by omega), if_neg (by omega), if_pos ⟨hk.1, hk.2.1, by rw [hk.2.2.1]; simp, hc, by rw [hk.2.2.1]; exact hz⟩, hk.2.2.1]; rfl
    · exact h v b hb r M' he
theorem zX_cS2i {α : Type} {q : ZQ} {d y pc p ix w k : Nat} {ls l0 : List Slot} {st : List Value} {M : ZI} {o1 : Option Int32} {f : Int32 → Option α} {E : α → Option Value → ZI → Prop} {m : Nat} {v1 v2 : Value} (hd : zdec y pc = some (.invokestatic ix, 3)) (hw : zown y = w) (hr : zres w ix = some k) (hk : k < 152 ∧ zkind k = 0 ∧ znar k = 2 ∧ zml k = m) (hm : Nat.ble 2 m = true) (hE : zX q d k 0 l0 [] M o1 (zEi M)) (hc : zcats (v2 :: v1 :: st) = true) (hz : zroom st = true) (hl : zent m [v1, v2] = l0) (hp : pc + 3 = p) (h : ∀ v, zX q (d + 1) y p ls (.int v :: st) M (f v) E) : zX q (d + 1) y pc ls (v2 :: v1 :: st) M (o1.bind f) E := by
  obtain rfl := hk.2.2.2
  subst hp; subst hw; subst hl
  intro b hb r M' he
  cases o1 with
  | none => cases hb
  | some v =>
    refine zEnds_call (k := k) (as := [v1, v2]) (rest := st) (r1 := (some (.int v))) (M1 := M) hd ?_ (Nat.le_of_ble_eq_true hm) (hE v rfl _ _ ⟨rfl, rfl⟩) ?_
    · simp only [zstep, zcallS, if_true, hr]; rw [if_neg (by omega), if_neg (by omega), if_neg (by omega), if_pos ⟨hk.1, hk.2.1, by rw [hk.2.2.1]; simp, hc, by rw [hk.2.2.1]; exact hz⟩, hk.2.2.1]; rfl
    · exact h v b hb r M' he
theorem zX_cS2m {α : Type} {q : ZQ} {d y pc p ix w k : Nat} {ls l0 : List Slot} {st : List Value} {M : ZI} {o1 : Option (Int32 × ZI)} {f : Int32 × ZI → Option α} {E : α → Option Value → ZI → Prop} {m : Nat} {v1 v2 : Value} (hd : zdec y pc = some (.invokestatic ix, 3)) (hw : zown y = w) (hr : zres w ix = some k) (hk : k < 152 ∧ zkind k = 0 ∧ znar k = 2 ∧ zml k = m) (hm : Nat.ble 2 m = true) (hE : zX q d k 0 l0 [] M o1 zEm) (hc : zcats (v2 :: v1 :: st) = true) (hz : zroom st = true) (hl : zent m [v1, v2] = l0) (hp : pc + 3 = p) (h : ∀ v M, zX q (d + 1) y p ls (.int v :: st) M (f (v, M)) E) : zX q (d + 1) y pc ls (v2 :: v1 :: st) M (o1.bind f) E := by
  obtain rfl := hk.2.2.2
  subst hp; subst hw; subst hl
  intro b hb r M' he
  cases o1 with
  | none => cases hb
  | some v =>
    refine zEnds_call (k := k) (as := [v1, v2]) (rest := st) (r1 := (some (.int v.1))) (M1 := v.2) hd ?_ (Nat.le_of_ble_eq_true hm) (hE v rfl _ _ ⟨rfl, rfl⟩) ?_
    · simp only [zstep, zcallS, if_true, hr]; rw [if_neg (by omega), if_neg (by omega), if_neg (by omega), if_pos ⟨hk.1, hk.2.1, by rw [hk.2.2.1]; simp, hc, by rw [hk.2.2.1]; exact hz⟩, hk.2.2.1]; rfl
    · exact h v.1 v.2 b hb r M' he
theorem zX_cS2v {α : Type} {q : ZQ} {d y pc p ix w k : Nat} {ls l0 : List Slot} {st : List Value} {M : ZI} {o1 : Option ZI} {f : ZI → Option α} {E : α → Option Value → ZI → Prop} {m : Nat} {v1 v2 : Value} (hd : zdec y pc = some (.invokestatic ix, 3)) (hw : zown y = w) (hr : zres w ix = some k) (hk : k < 152 ∧ zkind k = 0 ∧ znar k = 2 ∧ zml k = m) (hm : Nat.ble 2 m = true) (hE : zX q d k 0 l0 [] M o1 zEv) (hc : zcats (v2 :: v1 :: st) = true) (hz : zroom st = true) (hl : zent m [v1, v2] = l0) (hp : pc + 3 = p) (h : ∀ M, zX q (d + 1) y p ls st M (f M) E) : zX q (d + 1) y pc ls (v2 :: v1 :: st) M (o1.bind f) E := by
  obtain rfl := hk.2.2.2
  subst hp; subst hw; subst hl
  intro b hb r M' he
  cases o1 with
  | none => cases hb
  | some v =>
    refine zEnds_call (k := k) (as := [v1, v2]) (rest := st) (r1 := none) (M1 := v) hd ?_ (Nat.le_of_ble_eq_true hm) (hE v rfl _ _ ⟨rfl, rfl⟩) ?_
    · simp only [zstep, zcallS, if_true, hr]; rw [if_neg (by omega), if_neg (by omega), if_neg (by omega), if_pos ⟨hk.1, hk.2.1, by rw [hk.2.2.1]; simp, hc, by rw [hk.2.2.1]; exact hz⟩, hk.2.2.1]; rfl
    · exact h v b hb r M' he
theorem zX_cS3i {α : Type} {q : ZQ} {d y pc p ix w k : Nat} {ls l0 : List Slot} {st : List Value} {M : ZI} {o1 : Option Int32} {f : Int32 → Option α} {E : α → Option Value → ZI → Prop} {m : Nat} {v1 v2 v3 : Value} (hd : zdec y pc = some (.invokestatic ix, 3)) (hw : zown y = w) (hr : zres w ix = some k) (hk : k < 152 ∧ zkind k = 0 ∧ znar k = 3 ∧ zml k = m) (hm : Nat.ble 3 m = true) (hE : zX q d k 0 l0 [] M o1 (zEi M)) (hc : zcats (v3 :: v2 :: v1 :: st) = true) (hz : zroom st = true) (hl : zent m [v1, v2, v3] = l0) (hp : pc + 3 = p) (h : ∀ v, zX q (d + 1) y p ls (.int v :: st) M (f v) E) : zX q (d + 1) y pc ls (v3 :: v2 :: v1 :: st) M (o1.bind f) E := by
  obtain rfl := hk.2.2.2
  subst hp; subst hw; subst hl
  intro b hb r M' he
  cases o1 with
  | none => cases hb
  | some v =>
    refine zEnds_call (k := k) (as := [v1, v2, v3]) (rest := st) (r1 := (some (.int v))) (M1 := M) hd ?_ (Nat.le_of_ble_eq_true hm) (hE v rfl _ _ ⟨rfl, rfl⟩) ?_
    · simp only [zstep, zcallS, if_true, hr]; rw [if_neg (by omega), if_neg (by omega), if_neg (by omega), if_pos ⟨hk.1, hk.2.1, by rw [hk.2.2.1]; simp, hc, by rw [hk.2.2.1]; exact hz⟩, hk.2.2.1]; rfl
    · exact h v b hb r M' he
theorem zX_cS3m {α : Type} {q : ZQ} {d y pc p ix w k : Nat} {ls l0 : List Slot} {st : List Value} {M : ZI} {o1 : Option (Int32 × ZI)} {f : Int32 × ZI → Option α} {E : α → Option Value → ZI → Prop} {m : Nat} {v1 v2 v3 : Value} (hd : zdec y pc = some (.invokestatic ix, 3)) (hw : zown y = w) (hr : zres w ix = some k) (hk : k < 152 ∧ zkind k = 0 ∧ znar k = 3 ∧ zml k = m) (hm : Nat.ble 3 m = true) (hE : zX q d k 0 l0 [] M o1 zEm) (hc : zcats (v3 :: v2 :: v1 :: st) = true) (hz : zroom st = true) (hl : zent m [v1, v2, v3] = l0) (hp : pc + 3 = p) (h : ∀ v M, zX q (d + 1) y p ls (.int v :: st) M (f (v, M)) E) : zX q (d + 1) y pc ls (v3 :: v2 :: v1 :: st) M (o1.bind f) E := by
  obtain rfl := hk.2.2.2
  subst hp; subst hw; subst hl
  intro b hb r M' he
  cases o1 with
  | none => cases hb
  | some v =>
    refine zEnds_call (k := k) (as := [v1, v2, v3]) (rest := st) (r1 := (some (.int v.1))) (M1 := v.2) hd ?_ (Nat.le_of_ble_eq_true hm) (hE v rfl _ _ ⟨rfl, rfl⟩) ?_
    · simp only [zstep, zcallS, if_true, hr]; rw [if_neg (by omega), if_neg (by omega), if_neg (by omega), if_pos ⟨hk.1, hk.2.1, by rw [hk.2.2.1]; simp, hc, by rw [hk.2.2.1]; exact hz⟩, hk.2.2.1]; rfl
    · exact h v.1 v.2 b hb r M' he
theorem zX_cS3v {α : Type} {q : ZQ} {d y pc p ix w k : Nat} {ls l0 : List Slot} {st : List Value} {M : ZI} {o1 : Option ZI} {f : ZI → Option α} {E : α → Option Value → ZI → Prop} {m : Nat} {v1 v2 v3 : Value} (hd : zdec y pc = some (.invokestatic ix, 3)) (hw : zown y = w) (hr : zres w ix = some k) (hk : k < 152 ∧ zkind k = 0 ∧ znar k = 3 ∧ zml k = m) (hm : Nat.ble 3 m = true) (hE : zX q d k 0 l0 [] M o1 zEv) (hc : zcats (v3 :: v2 :: v1 :: st) = true) (hz : zroom st = true) (hl : zent m [v1, v2, v3] = l0) (hp : pc + 3 = p) (h : ∀ M, zX q (d + 1) y p ls st M (f M) E) : zX q (d + 1) y pc ls (v3 :: v2 :: v1 :: st) M (o1.bind f) E := by
  obtain rfl := hk.2.2.2
  subst hp; subst hw; subst hl
  intro b hb r M' he
  cases o1 with
  | none => cases hb
  | some v =>
    refine zEnds_call (k := k) (as := [v1, v2, v3]) (rest := st) (r1 := none) (M1 := v) hd ?_ (Nat.le_of_ble_eq_true hm) (hE v rfl _ _ ⟨rfl, rfl⟩) ?_
    · simp only [zstep, zcallS, if_true, hr]; rw [if_neg (by omega), if_neg (by omega), if_neg (by omega), if_pos ⟨hk.1, hk.2.1, by rw [hk.2.2.1]; simp, hc, by rw [hk.2.2.1]; exact hz⟩, hk.2.2.1]; rfl
    · exact h v b hb r M' he
theorem zX_cS4i {α : Type} {q : ZQ} {d y pc p ix w k : Nat} {ls l0 : List Slot} {st : List Value} {M : ZI} {o1 : Option Int32} {f : Int32 → Option α} {E : α → Option Value → ZI → Prop} {m : Nat} {v1 v2 v3 v4 : Value} (hd : zdec y pc = some (.invokestatic ix, 3)) (hw : zown y = w) (hr : zres w ix = some k) (hk : k < 152 ∧ zkind k = 0 ∧ znar k = 4 ∧ zml k = m) (hm : Nat.ble 4 m = true) (hE : zX q d k 0 l0 [] M o1 (zEi M)) (hc : zcats (v4 :: v3 :: v2 :: v1 :: st) = true) (hz : zroom st = true) (hl : zent m [v1, v2, v3, v4] = l0) (hp : pc + 3 = p) (h : ∀ v, zX q (d + 1) y p ls (.int v :: st) M (f v) E) : zX q (d + 1) y pc ls (v4 :: v3 :: v2 :: v1 :: st) M (o1.bind f) E := by
  obtain rfl := hk.2.2.2
  subst hp; subst hw; subst hl
  intro b hb r M' he
  cases o1 with
  | none => cases hb
  | some v =>
    refine zEnds_call (k := k) (as := [v1, v2, v3, v4]) (rest := st) (r1 := (some (.int v))) (M1 := M) hd ?_ (Nat.le_of_ble_eq_true hm) (hE v rfl _ _ ⟨rfl, rfl⟩) ?_
    · simp only [zstep, zcallS, if_true, hr]; rw [if_neg (by omega), if_neg (by omega), if_neg (by omega), if_pos ⟨hk.1, hk.2.1, by rw [hk.2.2.1]; simp, hc, by rw [hk.2.2.1]; exact hz⟩, hk.2.2.1]; rfl
    · exact h v b hb r M' he
theorem zX_cS4m {α : Type} {q : ZQ} {d y pc p ix w k : Nat} {ls l0 : List Slot} {st : List Value} {M : ZI} {o1 : Option (Int32 × ZI)} {f : Int32 × ZI → Option α} {E : α → Option Value → ZI → Prop} {m : Nat} {v1 v2 v3 v4 : Value} (hd : zdec y pc = some (.invokestatic ix, 3)) (hw : zown y = w) (hr : zres w ix = some k) (hk : k < 152 ∧ zkind k = 0 ∧ znar k = 4 ∧ zml k = m) (hm : Nat.ble 4 m = true) (hE : zX q d k 0 l0 [] M o1 zEm) (hc : zcats (v4 :: v3 :: v2 :: v1 :: st) = true) (hz : zroom st = true) (hl : zent m [v1, v2, v3, v4] = l0) (hp : pc + 3 = p) (h : ∀ v M, zX q (d + 1) y p ls (.int v :: st) M (f (v, M)) E) : zX q (d + 1) y pc ls (v4 :: v3 :: v2 :: v1 :: st) M (o1.bind f) E := by
  obtain rfl := hk.2.2.2
  subst hp; subst hw; subst hl
  intro b hb r M' he
  cases o1 with
  | none => cases hb
  | some v =>
    refine zEnds_call (k := k) (as := [v1, v2, v3, v4]) (rest := st) (r1 := (some (.int v.1))) (M1 := v.2) hd ?_ (Nat.le_of_ble_eq_true hm) (hE v rfl _ _ ⟨rfl, rfl⟩) ?_
    · simp only [zstep, zcallS, if_true, hr]; rw [if_neg (by omega), if_neg (by omega), if_neg (by omega), if_pos ⟨hk.1, hk.2.1, by rw [hk.2.2.1]; simp, hc, by rw [hk.2.2.1]; exact hz⟩, hk.2.2.1]; rfl
    · exact h v.1 v.2 b hb r M' he
theorem zX_cS4v {α : Type} {q : ZQ} {d y pc p ix w k : Nat} {ls l0 : List Slot} {st : List Value} {M : ZI} {o1 : Option ZI} {f : ZI → Option α} {E : α → Option Value → ZI → Prop} {m : Nat} {v1 v2 v3 v4 : Value} (hd : zdec y pc = some (.invokestatic ix, 3)) (hw : zown y = w) (hr : zres w ix = some k) (hk : k < 152 ∧ zkind k = 0 ∧ znar k = 4 ∧ zml k = m) (hm : Nat.ble 4 m = true) (hE : zX q d k 0 l0 [] M o1 zEv) (hc : zcats (v4 :: v3 :: v2 :: v1 :: st) = true) (hz : zroom st = true) (hl : zent m [v1, v2, v3, v4] = l0) (hp : pc + 3 = p) (h : ∀ M, zX q (d + 1) y p ls st M (f M) E) : zX q (d + 1) y pc ls (v4 :: v3 :: v2 :: v1 :: st) M (o1.bind f) E := by
  obtain rfl := hk.2.2.2
  subst hp; subst hw; subst hl
  intro b hb r M' he
  cases o1 with
  | none => cases hb
  | some v =>
    refine zEnds_call (k := k) (as := [v1, v2, v3, v4]) (rest := st) (r1 := none) (M1 := v) hd ?_ (Nat.le_of_ble_eq_true hm) (hE v rfl _ _ ⟨rfl, rfl⟩) ?_
    · simp only [zstep, zcallS, if_true, hr]; rw [if_neg (by omega), if_neg (by omega), if_neg (by omega), if_pos ⟨hk.1, hk.2.1, by rw [hk.2.2.1]; simp, hc, by rw [hk.2.2.1]; exact hz⟩, hk.2.2.1]; rfl
    · exact h v b hb r M' he
theorem zX_cS5i {α : Type} {q : ZQ} {d y pc p ix w k : Nat} {ls l0 : List Slot} {st : List Value} {M : ZI} {o1 : Option Int32} {f : Int32 → Option α} {E : α → Option Value → ZI → Prop} {m : Nat} {v1 v2 v3 v4 v5 : Value} (hd : zdec y pc = some (.invokestatic ix, 3)) (hw : zown y = w) (hr : zres w ix = some k) (hk : k < 152 ∧ zkind k = 0 ∧ znar k = 5 ∧ zml k = m) (hm : Nat.ble 5 m = true) (hE : zX q d k 0 l0 [] M o1 (zEi M)) (hc : zcats (v5 :: v4 :: v3 :: v2 :: v1 :: st) = true) (hz : zroom st = true) (hl : zent m [v1, v2, v3, v4, v5] = l0) (hp : pc + 3 = p) (h : ∀ v, zX q (d + 1) y p ls (.int v :: st) M (f v) E) : zX q (d + 1) y pc ls (v5 :: v4 :: v3 :: v2 :: v1 :: st) M (o1.bind f) E := by
  obtain rfl := hk.2.2.2
  subst hp; subst hw; subst hl
  intro b hb r M' he
  cases o1 with
  | none => cases hb
  | some v =>
    refine zEnds_call (k := k) (as := [v1, v2, v3, v4, v5]) (rest := st) (r1 := (some (.int v))) (M1 := M) hd ?_ (Nat.le_of_ble_eq_true hm) (hE v rfl _ _ ⟨rfl, rfl⟩) ?_
    · simp only [zstep, zcallS, if_true, hr]; rw [if_neg (by omega), if_neg (by omega), if_neg (by omega), if_pos ⟨hk.1, hk.2.1, by rw [hk.2.2.1]; simp, hc, by rw [hk.2.2.1]; exact hz⟩, hk.2.2.1]; rfl
    · exact h v b hb r M' he
theorem zX_cS5m {α : Type} {q : ZQ} {d y pc p ix w k : Nat} {ls l0 : List Slot} {st : List Value} {M : ZI} {o1 : Option (Int32 × ZI)} {f : Int32 × ZI → Option α} {E : α → Option Value → ZI → Prop} {m : Nat} {v1 v2 v3 v4 v5 : Value} (hd : zdec y pc = some (.invokestatic ix, 3)) (hw : zown y = w) (hr : zres w ix = some k) (hk : k < 152 ∧ zkind k = 0 ∧ znar k = 5 ∧ zml k = m) (hm : Nat.ble 5 m = true) (hE : zX q d k 0 l0 [] M o1 zEm) (hc : zcats (v5 :: v4 :: v3 :: v2 :: v1 :: st) = true) (hz : zroom st = true) (hl : zent m [v1, v2, v3, v4, v5] = l0) (hp : pc + 3 = p) (h : ∀ v M, zX q (d + 1) y p ls (.int v :: st) M (f (v, M)) E) : zX q (d + 1) y pc ls (v5 :: v4 :: v3 :: v2 :: v1 :: st) M (o1.bind f) E := by
  obtain rfl := hk.2.2.2
  subst hp; subst hw; subst hl
  intro b hb r M' he
  cases o1 with
  | none => cases hb
  | some v =>
    refine zEnds_call (k := k) (as := [v1, v2, v3, v4, v5]) (rest := st) (r1 := (some (.int v.1))) (M1 := v.2) hd ?_ (Nat.le_of_ble_eq_true hm) (hE v rfl _ _ ⟨rfl, rfl⟩) ?_
    · simp only [zstep, zcallS, if_true, hr]; rw [if_neg (by omega), if_neg (by omega), if_neg (by omega), if_pos ⟨hk.1, hk.2.1, by rw [hk.2.2.1]; simp, hc, by rw [hk.2.2.1]; exact hz⟩, hk.2.2.1]; rfl
    · exact h v.1 v.2 b hb r M' he
theorem zX_cS5v {α : Type} {q : ZQ} {d y pc p ix w k : Nat} {ls l0 : List Slot} {st : List Value} {M : ZI} {o1 : Option ZI} {f : ZI → Option α} {E : α → Option Value → ZI → Prop} {m : Nat} {v1 v2 v3 v4 v5 : Value} (hd : zdec y pc = some (.invokestatic ix, 3)) (hw : zown y = w) (hr : zres w ix = some k) (hk : k < 152 ∧ zkind k = 0 ∧ znar k = 5 ∧ zml k = m) (hm : Nat.ble 5 m = true) (hE : zX q d k 0 l0 [] M o1 zEv) (hc : zcats (v5 :: v4 :: v3 :: v2 :: v1 :: st) = true) (hz : zroom st = true) (hl : zent m [v1, v2, v3, v4, v5] = l0) (hp : pc + 3 = p) (h : ∀ M, zX q (d + 1) y p ls st M (f M) E) : zX q (d + 1) y pc ls (v5 :: v4 :: v3 :: v2 :: v1 :: st) M (o1.bind f) E := by
  obtain rfl := hk.2.2.2
  subst hp; subst hw; subst hl
  intro b hb r M' he
  cases o1 with
  | none => cases hb
  | some v =>
    refine zEnds_call (k := k) (as := [v1, v2, v3, v4, v5]) (rest := st) (r1 := none) (M1 := v) hd ?_ (Nat.le_of_ble_eq_true hm) (hE v rfl _ _ ⟨rfl, rfl⟩) ?_
    · simp only [zstep, zcallS, if_true, hr]; rw [if_neg (by omega), if_neg (by omega), if_neg (by omega), if_pos ⟨hk.1, hk.2.1, by rw [hk.2.2.1]; simp, hc, by rw [hk.2.2.1]; exact hz⟩, hk.2.2.1]; rfl
    · exact h v b hb r M' he
theorem zX_cV0i {α : Type} {q : ZQ} {d y pc p ix w k : Nat} {ls l0 : List Slot} {st : List Value} {M : ZI} {o1 : Option Int32} {f : Int32 → Option α} {E : α → Option Value → ZI → Prop} {m : Nat} {a c : Nat} (hc2 : zown k = c ∧ c < 10 ∧ zdir k = true) (ho : zOb c a) (hd : zdec y pc = some (.invokevirtual ix, 3)) (hw : zown y = w) (hr : zres w ix = some k) (hk : k < 152 ∧ zkind k = 1 ∧ znar k = 0 ∧ zml k = m) (hm : Nat.ble 1 m = true) (hE : zX q d k 0 l0 [] M o1 (zEi M)) (hc : zcats (.ref a :: st) = true) (hz : zroom st = true) (hl : zent m [.ref a] = l0) (hp : pc + 3 = p) (h : ∀ v, zX q (d + 1) y p ls (.int v :: st) M (f v) E) : zX q (d + 1) y pc ls (.ref a :: st) M (o1.bind f) E := by
  obtain rfl := hk.2.2.2
  subst hp; subst hw; subst hl
  intro b hb r M' he
  cases o1 with
  | none => cases hb
  | some v =>
    refine zEnds_call (k := k) (as := [.ref a]) (rest := st) (r1 := (some (.int v))) (M1 := M) hd ?_ (Nat.le_of_ble_eq_true hm) (hE v rfl _ _ ⟨rfl, rfl⟩) ?_
    · simp only [zstep, zcallV, if_true, hr]; rw [if_neg (by omega), if_neg (by omega), if_pos ⟨hk.1, hk.2.1⟩, hk.2.2.1]; simp only [List.drop_succ_cons, List.drop_zero]; rw [zinh_cls ho hc2.2.1]; simp only; rw [if_pos ⟨by simp [zrecv, ho.1, (zL_app (X := q.2.2) ho.2), hc2.1, zCL]; omega, hc2.2.2, hc, hz⟩]; rfl
    · exact h v b hb r M' he
theorem zX_cV0m {α : Type} {q : ZQ} {d y pc p ix w k : Nat} {ls l0 : List Slot} {st : List Value} {M : ZI} {o1 : Option (Int32 × ZI)} {f : Int32 × ZI → Option α} {E : α → Option Value → ZI → Prop} {m : Nat} {a c : Nat} (hc2 : zown k = c ∧ c < 10 ∧ zdir k = true) (ho : zOb c a) (hd : zdec y pc = some (.invokevirtual ix, 3)) (hw : zown y = w) (hr : zres w ix = some k) (hk : k < 152 ∧ zkind k = 1 ∧ znar k = 0 ∧ zml k = m) (hm : Nat.ble 1 m = true) (hE : zX q d k 0 l0 [] M o1 zEm) (hc : zcats (.ref a :: st) = true) (hz : zroom st = true) (hl : zent m [.ref a] = l0) (hp : pc + 3 = p) (h : ∀ v M, zX q (d + 1) y p ls (.int v :: st) M (f (v, M)) E) : zX q (d + 1) y pc ls (.ref a :: st) M (o1.bind f) E := by
  obtain rfl := hk.2.2.2
  subst hp; subst hw; subst hl
  intro b hb r M' he
  cases o1 with
  | none => cases hb
  | some v =>
    refine zEnds_call (k := k) (as := [.ref a]) (rest := st) (r1 := (some (.int v.1))) (M1 := v.2) hd ?_ (Nat.le_of_ble_eq_true hm) (hE v rfl _ _ ⟨rfl, rfl⟩) ?_
    · simp only [zstep, zcallV, if_true, hr]; rw [if_neg (by omega), if_neg (by omega), if_pos ⟨hk.1, hk.2.1⟩, hk.2.2.1]; simp only [List.drop_succ_cons, List.drop_zero]; rw [zinh_cls ho hc2.2.1]; simp only; rw [if_pos ⟨by simp [zrecv, ho.1, (zL_app (X := q.2.2) ho.2), hc2.1, zCL]; omega, hc2.2.2, hc, hz⟩]; rfl
    · exact h v.1 v.2 b hb r M' he
theorem zX_cV0v {α : Type} {q : ZQ} {d y pc p ix w k : Nat} {ls l0 : List Slot} {st : List Value} {M : ZI} {o1 : Option ZI} {f : ZI → Option α} {E : α → Option Value → ZI → Prop} {m : Nat} {a c : Nat} (hc2 : zown k = c ∧ c < 10 ∧ zdir k = true) (ho : zOb c a) (hd : zdec y pc = some (.invokevirtual ix, 3)) (hw : zown y = w) (hr : zres w ix = some k) (hk : k < 152 ∧ zkind k = 1 ∧ znar k = 0 ∧ zml k = m) (hm : Nat.ble 1 m = true) (hE : zX q d k 0 l0 [] M o1 zEv) (hc : zcats (.ref a :: st) = true) (hz : zroom st = true) (hl : zent m [.ref a] = l0) (hp : pc + 3 = p) (h : ∀ M, zX q (d + 1) y p ls st M (f M) E) : zX q (d + 1) y pc ls (.ref a :: st) M (o1.bind f) E := by
  obtain rfl := hk.2.2.2
  subst hp; subst hw; subst hl
  intro b hb r M' he
  cases o1 with
  | none => cases hb
  | some v =>
    refine zEnds_call (k := k) (as := [.ref a]) (rest := st) (r1 := none) (M1 := v) hd ?_ (Nat.le_of_ble_eq_true hm) (hE v rfl _ _ ⟨rfl, rfl⟩) ?_
    · simp only [zstep, zcallV, if_true, hr]; rw [if_neg (by omega), if_neg (by omega), if_pos ⟨hk.1, hk.2.1⟩, hk.2.2.1]; simp only [List.drop_succ_cons, List.drop_zero]; rw [zinh_cls ho hc2.2.1]; simp only; rw [if_pos ⟨by simp [zrecv, ho.1, (zL_app (X := q.2.2) ho.2), hc2.1, zCL]; omega, hc2.2.2, hc, hz⟩]; rfl
    · exact h v b hb r M' he
theorem zX_cV1i {α : Type} {q : ZQ} {d y pc p ix w k : Nat} {ls l0 : List Slot} {st : List Value} {M : ZI} {o1 : Option Int32} {f : Int32 → Option α} {E : α → Option Value → ZI → Prop} {m : Nat} {v1 : Value} {a c : Nat} (hc2 : zown k = c ∧ c < 10 ∧ zdir k = true) (ho : zOb c a) (hd : zdec y pc = some (.invokevirtual ix, 3)) (hw : zown y = w) (hr : zres w ix = some k) (hk : k < 152 ∧ zkind k = 1 ∧ znar k = 1 ∧ zml k = m) (hm : Nat.ble 2 m = true) (hE : zX q d k 0 l0 [] M o1 (zEi M)) (hc : zcats (v1 :: .ref a :: st) = true) (hz : zroom st = true) (hl : zent m [.ref a, v1] = l0) (hp : pc + 3 = p) (h : ∀ v, zX q (d + 1) y p ls (.int v :: st) M (f v) E) : zX q (d + 1) y pc ls (v1 :: .ref a :: st) M (o1.bind f) E := by
  obtain rfl := hk.2.2.2
  subst hp; subst hw; subst hl
  intro b hb r M' he
  cases o1 with
  | none => cases hb
  | some v =>
    refine zEnds_call (k := k) (as := [.ref a, v1]) (rest := st) (r1 := (some (.int v))) (M1 := M) hd ?_ (Nat.le_of_ble_eq_true hm) (hE v rfl _ _ ⟨rfl, rfl⟩) ?_
    · simp only [zstep, zcallV, if_true, hr]; rw [if_neg (by omega), if_neg (by omega), if_pos ⟨hk.1, hk.2.1⟩, hk.2.2.1]; simp only [List.drop_succ_cons, List.drop_zero]; rw [zinh_cls ho hc2.2.1]; simp only; rw [if_pos ⟨by simp [zrecv, ho.1, (zL_app (X := q.2.2) ho.2), hc2.1, zCL]; omega, hc2.2.2, hc, hz⟩]; rfl
    · exact h v b hb r M' he
theorem zX_cV1m {α : Type} {q : ZQ} {d y pc p ix w k : Nat} {ls l0 : List Slot} {st : List Value} {M : ZI} {o1 : Option (Int32 × ZI)} {f : Int32 × ZI → Option α} {E : α → Option Value → ZI → Prop} {m : Nat} {v1 : Value} {a c : Nat} (hc2 : zown k = c ∧ c < 10 ∧ zdir k = true) (ho : zOb c a) (hd : zdec y pc = some (.invokevirtual ix, 3)) (hw : zown y = w) (hr : zres w ix = some k) (hk : k < 152 ∧ zkind k = 1 ∧ znar k = 1 ∧ zml k = m) (hm : Nat.ble 2 m = true) (hE : zX q d k 0 l0 [] M o1 zEm) (hc : zcats (v1 :: .ref a :: st) = true) (hz : zroom st = true) (hl : zent m [.ref a, v1] = l0) (hp : pc + 3 = p) (h : ∀ v M, zX q (d + 1) y p ls (.int v :: st) M (f (v, M)) E) : zX q (d + 1) y pc ls (v1 :: .ref a :: st) M (o1.bind f) E := by
  obtain rfl := hk.2.2.2
  subst hp; subst hw; subst hl
  intro b hb r M' he
  cases o1 with
  | none => cases hb
  | some v =>
    refine zEnds_call (k := k) (as := [.ref a, v1]) (rest := st) (r1 := (some (.int v.1))) (M1 := v.2) hd ?_ (Nat.le_of_ble_eq_true hm) (hE v rfl _ _ ⟨rfl, rfl⟩) ?_
    · simp only [zstep, zcallV, if_true, hr]; rw [if_neg (by omega), if_neg (by omega), if_pos ⟨hk.1, hk.2.1⟩, hk.2.2.1]; simp only [List.drop_succ_cons, List.drop_zero]; rw [zinh_cls ho hc2.2.1]; simp only; rw [if_pos ⟨by simp [zrecv, ho.1, (zL_app (X := q.2.2) ho.2), hc2.1, zCL]; omega, hc2.2.2, hc, hz⟩]; rfl
    · exact h v.1 v.2 b hb r M' he
theorem zX_cV1v {α : Type} {q : ZQ} {d y pc p ix w k : Nat} {ls l0 : List Slot} {st : List Value} {M : ZI} {o1 : Option ZI} {f : ZI → Option α} {E : α → Option Value → ZI → Prop} {m : Nat} {v1 : Value} {a c : Nat} (hc2 : zown k = c ∧ c < 10 ∧ zdir k = true) (ho : zOb c a) (hd : zdec y pc = some (.invokevirtual ix, 3)) (hw : zown y = w) (hr : zres w ix = some k) (hk : k < 152 ∧ zkind k = 1 ∧ znar k = 1 ∧ zml k = m) (hm : Nat.ble 2 m = true) (hE : zX q d k 0 l0 [] M o1 zEv) (hc : zcats (v1 :: .ref a :: st) = true) (hz : zroom st = true) (hl : zent m [.ref a, v1] = l0) (hp : pc + 3 = p) (h : ∀ M, zX q (d + 1) y p ls st M (f M) E) : zX q (d + 1) y pc ls (v1 :: .ref a :: st) M (o1.bind f) E := by
  obtain rfl := hk.2.2.2
  subst hp; subst hw; subst hl
  intro b hb r M' he
  cases o1 with
  | none => cases hb
  | some v =>
    refine zEnds_call (k := k) (as := [.ref a, v1]) (rest := st) (r1 := none) (M1 := v) hd ?_ (Nat.le_of_ble_eq_true hm) (hE v rfl _ _ ⟨rfl, rfl⟩) ?_
    · simp only [zstep, zcallV, if_true, hr]; rw [if_neg (by omega), if_neg (by omega), if_pos ⟨hk.1, hk.2.1⟩, hk.2.2.1]; simp only [List.drop_succ_cons, List.drop_zero]; rw [zinh_cls ho hc2.2.1]; simp only; rw [if_pos ⟨by simp [zrecv, ho.1, (zL_app (X := q.2.2) ho.2), hc2.1, zCL]; omega, hc2.2.2, hc, hz⟩]; rfl
    · exact h v b hb r M' he
theorem zX_cV2i {α : Type} {q : ZQ} {d y pc p ix w k : Nat} {ls l0 : List Slot} {st : List Value} {M : ZI} {o1 : Option Int32} {f : Int32 → Option α} {E : α → Option Value → ZI → Prop} {m : Nat} {v1 v2 : Value} {a c : Nat} (hc2 : zown k = c ∧ c < 10 ∧ zdir k = true) (ho : zOb c a) (hd : zdec y pc = some (.invokevirtual ix, 3)) (hw : zown y = w) (hr : zres w ix = some k) (hk : k < 152 ∧ zkind k = 1 ∧ znar k = 2 ∧ zml k = m) (hm : Nat.ble 3 m = true) (hE : zX q d k 0 l0 [] M o1 (zEi M)) (hc : zcats (v2 :: v1 :: .ref a :: st) = true) (hz : zroom st = true) (hl : zent m [.ref a, v1, v2] = l0) (hp : pc + 3 = p) (h : ∀ v, zX q (d + 1) y p ls (.int v :: st) M (f v) E) : zX q (d + 1) y pc ls (v2 :: v1 :: .ref a :: st) M (o1.bind f) E := by
  obtain rfl := hk.2.2.2
  subst hp; subst hw; subst hl
  intro b hb r M' he
  cases o1 with
  | none => cases hb
  | some v =>
    refine zEnds_call (k := k) (as := [.ref a, v1, v2]) (rest := st) (r1 := (some (.int v))) (M1 := M) hd ?_ (Nat.le_of_ble_eq_true hm) (hE v rfl _ _ ⟨rfl, rfl⟩) ?_
    · simp only [zstep, zcallV, if_true, hr]; rw [if_neg (by omega), if_neg (by omega), if_pos ⟨hk.1, hk.2.1⟩, hk.2.2.1]; simp only [List.drop_succ_cons, List.drop_zero]; rw [zinh_cls ho hc2.2.1]; simp only; rw [if_pos ⟨by simp [zrecv, ho.1, (zL_app (X := q.2.2) ho.2), hc2.1, zCL]; omega, hc2.2.2, hc, hz⟩]; rfl
    · exact h v b hb r M' he
theorem zX_cV2m {α : Type} {q : ZQ} {d y pc p ix w k : Nat} {ls l0 : List Slot} {st : List Value} {M : ZI} {o1 : Option (Int32 × ZI)} {f : Int32 × ZI → Option α} {E : α → Option Value → ZI → Prop} {m : Nat} {v1 v2 : Value} {a c : Nat} (hc2 : zown k = c ∧ c < 10 ∧ zdir k = true) (ho : zOb c a) (hd : zdec y pc = some (.invokevirtual ix, 3)) (hw : zown y = w) (hr : zres w ix = some k) (hk : k < 152 ∧ zkind k = 1 ∧ znar k = 2 ∧ zml k = m) (hm : Nat.ble 3 m = true) (hE : zX q d k 0 l0 [] M o1 zEm) (hc : zcats (v2 :: v1 :: .ref a :: st) = true) (hz : zroom st = true) (hl : zent m [.ref a, v1, v2] = l0) (hp : pc + 3 = p) (h : ∀ v M, zX q (d + 1) y p ls (.int v :: st) M (f (v, M)) E) : zX q (d + 1) y pc ls (v2 :: v1 :: .ref a :: st) M (o1.bind f) E := by
  obtain rfl := hk.2.2.2
  subst hp; subst hw; subst hl
  intro b hb r M' he
  cases o1 with
  | none => cases hb
  | some v =>
    refine zEnds_call (k := k) (as := [.ref a, v1, v2]) (rest := st) (r1 := (some (.int v.1))) (M1 := v.2) hd ?_ (Nat.le_of_ble_eq_true hm) (hE v rfl _ _ ⟨rfl, rfl⟩) ?_
    · simp only [zstep, zcallV, if_true, hr]; rw [if_neg (by omega), if_neg (by omega), if_pos ⟨hk.1, hk.2.1⟩, hk.2.2.1]; simp only [List.drop_succ_cons, List.drop_zero]; rw [zinh_cls ho hc2.2.1]; simp only; rw [if_pos ⟨by simp [zrecv, ho.1, (zL_app (X := q.2.2) ho.2), hc2.1, zCL]; omega, hc2.2.2, hc, hz⟩]; rfl
    · exact h v.1 v.2 b hb r M' he
theorem zX_cV2v {α : Type} {q : ZQ} {d y pc p ix w k : Nat} {ls l0 : List Slot} {st : List Value} {M : ZI} {o1 : Option ZI} {f : ZI → Option α} {E : α → Option Value → ZI → Prop} {m : Nat} {v1 v2 : Value} {a c : Nat} (hc2 : zown k = c ∧ c < 10 ∧ zdir k = true) (ho : zOb c a) (hd : zdec y pc = some (.invokevirtual ix, 3)) (hw : zown y = w) (hr : zres w ix = some k) (hk : k < 152 ∧ zkind k = 1 ∧ znar k = 2 ∧ zml k = m) (hm : Nat.ble 3 m = true) (hE : zX q d k 0 l0 [] M o1 zEv) (hc : zcats (v2 :: v1 :: .ref a :: st) = true) (hz : zroom st = true) (hl : zent m [.ref a, v1, v2] = l0) (hp : pc + 3 = p) (h : ∀ M, zX q (d + 1) y p ls st M (f M) E) : zX q (d + 1) y pc ls (v2 :: v1 :: .ref a :: st) M (o1.bind f) E := by
  obtain rfl := hk.2.2.2
  subst hp; subst hw; subst hl
  intro b hb r M' he
  cases o1 with
  | none => cases hb
  | some v =>
    refine zEnds_call (k := k) (as := [.ref a, v1, v2]) (rest := st) (r1 := none) (M1 := v) hd ?_ (Nat.le_of_ble_eq_true hm) (hE v rfl _ _ ⟨rfl, rfl⟩) ?_
    · simp only [zstep, zcallV, if_true, hr]; rw [if_neg (by omega), if_neg (by omega), if_pos ⟨hk.1, hk.2.1⟩, hk.2.2.1]; simp only [List.drop_succ_cons, List.drop_zero]; rw [zinh_cls ho hc2.2.1]; simp only; rw [if_pos ⟨by simp [zrecv, ho.1, (zL_app (X := q.2.2) ho.2), hc2.1, zCL]; omega, hc2.2.2, hc, hz⟩]; rfl
    · exact h v b hb r M' he
theorem zX_cV3i {α : Type} {q : ZQ} {d y pc p ix w k : Nat} {ls l0 : List Slot} {st : List Value} {M : ZI} {o1 : Option Int32} {f : Int32 → Option α} {E : α → Option Value → ZI → Prop} {m : Nat} {v1 v2 v3 : Value} {a c : Nat} (hc2 : zown k = c ∧ c < 10 ∧ zdir k = true) (ho : zOb c a) (hd : zdec y pc = some (.invokevirtual ix, 3)) (hw : zown y = w) (hr : zres w ix = some k) (hk : k < 152 ∧ zkind k = 1 ∧ znar k = 3 ∧ zml k = m) (hm : Nat.ble 4 m = true) (hE : zX q d k 0 l0 [] M o1 (zEi M)) (hc : zcats (v3 :: v2 :: v1 :: .ref a :: st) = true) (hz : zroom st = true) (hl : zent m [.ref a, v1, v2, v3] = l0) (hp : pc + 3 = p) (h : ∀ v, zX q (d + 1) y p ls (.int v :: st) M (f v) E) : zX q (d + 1) y pc ls (v3 :: v2 :: v1 :: .ref a :: st) M (o1.bind f) E := by
  obtain rfl := hk.2.2.2
  subst hp; subst hw; subst hl
  intro b hb r M' he
  cases o1 with
  | none => cases hb
  | some v =>
    refine zEnds_call (k := k) (as := [.ref a, v1, v2, v3]) (rest := st) (r1 := (some (.int v))) (M1 := M) hd ?_ (Nat.le_of_ble_eq_true hm) (hE v rfl _ _ ⟨rfl, rfl⟩) ?_
    · simp only [zstep, zcallV, if_true, hr]; rw [if_neg (by omega), if_neg (by omega), if_pos ⟨hk.1, hk.2.1⟩, hk.2.2.1]; simp only [List.drop_succ_cons, List.drop_zero]; rw [zinh_cls ho hc2.2.1]; simp only; rw [if_pos ⟨by simp [zrecv, ho.1, (zL_app (X := q.2.2) ho.2), hc2.1, zCL]; omega, hc2.2.2, hc, hz⟩]; rfl
    · exact h v b hb r M' he
theorem zX_cV3m {α : Type} {q : ZQ} {d y pc p ix w k : Nat} {ls l0 : List Slot} {st : List Value} {M : ZI} {o1 : Option (Int32 × ZI)} {f : Int32 × ZI → Option α} {E : α → Option Value → ZI → Prop} {m : Nat} {v1 v2 v3 : Value} {a c : Nat} (hc2 : zown k = c ∧ c < 10 ∧ zdir k = true) (ho : zOb c a) (hd : zdec y pc = some (.invokevirtual ix, 3)) (hw : zown y = w) (hr : zres w ix = some k) (hk : k < 152 ∧ zkind k = 1 ∧ znar k = 3 ∧ zml k = m) (hm : Nat.ble 4 m = true) (hE : zX q d k 0 l0 [] M o1 zEm) (hc : zcats (v3 :: v2 :: v1 :: .ref a :: st) = true) (hz : zroom st = true) (hl : zent m [.ref a, v1, v2, v3] = l0) (hp : pc + 3 = p) (h : ∀ v M, zX q (d + 1) y p ls (.int v :: st) M (f (v, M)) E) : zX q (d + 1) y pc ls (v3 :: v2 :: v1 :: .ref a :: st) M (o1.bind f) E := by
  obtain rfl := hk.2.2.2
  subst hp; subst hw; subst hl
  intro b hb r M' he
  cases o1 with
  | none => cases hb
  | some v =>
    refine zEnds_call (k := k) (as := [.ref a, v1, v2, v3]) (rest := st) (r1 := (some (.int v.1))) (M1 := v.2) hd ?_ (Nat.le_of_ble_eq_true hm) (hE v rfl _ _ ⟨rfl, rfl⟩) ?_
    · simp only [zstep, zcallV, if_true, hr]; rw [if_neg (by omega), if_neg (by omega), if_pos ⟨hk.1, hk.2.1⟩, hk.2.2.1]; simp only [List.drop_succ_cons, List.drop_zero]; rw [zinh_cls ho hc2.2.1]; simp only; rw [if_pos ⟨by simp [zrecv, ho.1, (zL_app (X := q.2.2) ho.2), hc2.1, zCL]; omega, hc2.2.2, hc, hz⟩]; rfl
    · exact h v.1 v.2 b hb r M' he
theorem zX_cV3v {α : Type} {q : ZQ} {d y pc p ix w k : Nat} {ls l0 : List Slot} {st : List Value} {M : ZI} {o1 : Option ZI} {f : ZI → Option α} {E : α → Option Value → ZI → Prop} {m : Nat} {v1 v2 v3 : Value} {a c : Nat} (hc2 : zown k = c ∧ c < 10 ∧ zdir k = true) (ho : zOb c a) (hd : zdec y pc = some (.invokevirtual ix, 3)) (hw : zown y = w) (hr : zres w ix = some k) (hk : k < 152 ∧ zkind k = 1 ∧ znar k = 3 ∧ zml k = m) (hm : Nat.ble 4 m = true) (hE : zX q d k 0 l0 [] M o1 zEv) (hc : zcats (v3 :: v2 :: v1 :: .ref a :: st) = true) (hz : zroom st = true) (hl : zent m [.ref a, v1, v2, v3] = l0) (hp : pc + 3 = p) (h : ∀ M, zX q (d + 1) y p ls st M (f M) E) : zX q (d + 1) y pc ls (v3 :: v2 :: v1 :: .ref a :: st) M (o1.bind f) E := by
  obtain rfl := hk.2.2.2
  subst hp; subst hw; subst hl
  intro b hb r M' he
  cases o1 with
  | none => cases hb
  | some v =>
    refine zEnds_call (k := k) (as := [.ref a, v1, v2, v3]) (rest := st) (r1 := none) (M1 := v) hd ?_ (Nat.le_of_ble_eq_true hm) (hE v rfl _ _ ⟨rfl, rfl⟩) ?_
    · simp only [zstep, zcallV, if_true, hr]; rw [if_neg (by omega), if_neg (by omega), if_pos ⟨hk.1, hk.2.1⟩, hk.2.2.1]; simp only [List.drop_succ_cons, List.drop_zero]; rw [zinh_cls ho hc2.2.1]; simp only; rw [if_pos ⟨by simp [zrecv, ho.1, (zL_app (X := q.2.2) ho.2), hc2.1, zCL]; omega, hc2.2.2, hc, hz⟩]; rfl
    · exact h v b hb r M' he
theorem zX_cV4i {α : Type} {q : ZQ} {d y pc p ix w k : Nat} {ls l0 : List Slot} {st : List Value} {M : ZI} {o1 : Option Int32} {f : Int32 → Option α} {E : α → Option Value → ZI → Prop} {m : Nat} {v1 v2 v3 v4 : Value} {a c : Nat} (hc2 : zown k = c ∧ c < 10 ∧ zdir k = true) (ho : zOb c a) (hd : zdec y pc = some (.invokevirtual ix, 3)) (hw : zown y = w) (hr : zres w ix = some k) (hk : k < 152 ∧ zkind k = 1 ∧ znar k = 4 ∧ zml k = m) (hm : Nat.ble 5 m = true) (hE : zX q d k 0 l0 [] M o1 (zEi M)) (hc : zcats (v4 :: v3 :: v2 :: v1 :: .ref a :: st) = true) (hz : zroom st = true) (hl : zent m [.ref a, v1, v2, v3, v4] = l0) (hp : pc + 3 = p) (h : ∀ v, zX q (d + 1) y p ls (.int v :: st) M (f v) E) : zX q (d + 1) y pc ls (v4 :: v3 :: v2 :: v1 :: .ref a :: st) M (o1.bind f) E := by
  obtain rfl := hk.2.2.2
  subst hp; subst hw; subst hl
  intro b hb r M' he
  cases o1 with
  | none => cases hb
  | some v =>
    refine zEnds_call (k := k) (as := [.ref a, v1, v2, v3, v4]) (rest := st) (r1 := (some (.int v))) (M1 := M) hd ?_ (Nat.le_of_ble_eq_true hm) (hE v rfl _ _ ⟨rfl, rfl⟩) ?_
    · simp only [zstep, zcallV, if_true, hr]; rw [if_neg (by omega), if_neg (by omega), if_pos ⟨hk.1, hk.2.1⟩, hk.2.2.1]; simp only [List.drop_succ_cons, List.drop_zero]; rw [zinh_cls ho hc2.2.1]; simp only; rw [if_pos ⟨by simp [zrecv, ho.1, (zL_app (X := q.2.2) ho.2), hc2.1, zCL]; omega, hc2.2.2, hc, hz⟩]; rfl
    · exact h v b hb r M' he
theorem zX_cV4m {α : Type} {q : ZQ} {d y pc p ix w k : Nat} {ls l0 : List Slot} {st : List Value} {M : ZI} {o1 : Option (Int32 × ZI)} {f : Int32 × ZI → Option α} {E : α → Option Value → ZI → Prop} {m : Nat} {v1 v2 v3 v4 : Value} {a c : Nat} (hc2 : zown k = c ∧ c < 10 ∧ zdir k = true) (ho : zOb c a) (hd : zdec y pc = some (.invokevirtual ix, 3)) (hw : zown y = w) (hr : zres w ix = some k) (hk : k < 152 ∧ zkind k = 1 ∧ znar k = 4 ∧ zml k = m) (hm : Nat.ble 5 m = true) (hE : zX q d k 0 l0 [] M o1 zEm) (hc : zcats (v4 :: v3 :: v2 :: v1 :: .ref a :: st) = true) (hz : zroom st = true) (hl : zent m [.ref a, v1, v2, v3, v4] = l0) (hp : pc + 3 = p) (h : ∀ v M, zX q (d + 1) y p ls (.int v :: st) M (f (v, M)) E) : zX q (d + 1) y pc ls (v4 :: v3 :: v2 :: v1 :: .ref a :: st) M (o1.bind f) E := by
  obtain rfl := hk.2.2.2
  subst hp; subst hw; subst hl
  intro b hb r M' he
  cases o1 with
  | none => cases hb
  | some v =>
    refine zEnds_call (k := k) (as := [.ref a, v1, v2, v3, v4]) (rest := st) (r1 := (some (.int v.1))) (M1 := v.2) hd ?_ (Nat.le_of_ble_eq_true hm) (hE v rfl _ _ ⟨rfl, rfl⟩) ?_
    · simp only [zstep, zcallV, if_true, hr]; rw [if_neg (by omega), if_neg (by omega), if_pos ⟨hk.1, hk.2.1⟩, hk.2.2.1]; simp only [List.drop_succ_cons, List.drop_zero]; rw [zinh_cls ho hc2.2.1]; simp only; rw [if_pos ⟨by simp [zrecv, ho.1, (zL_app (X := q.2.2) ho.2), hc2.1, zCL]; omega, hc2.2.2, hc, hz⟩]; rfl
    · exact h v.1 v.2 b hb r M' he
theorem zX_cV4v {α : Type} {q : ZQ} {d y pc p ix w k : Nat} {ls l0 : List Slot} {st : List Value} {M : ZI} {o1 : Option ZI} {f : ZI → Option α} {E : α → Option Value → ZI → Prop} {m : Nat} {v1 v2 v3 v4 : Value} {a c : Nat} (hc2 : zown k = c ∧ c < 10 ∧ zdir k = true) (ho : zOb c a) (hd : zdec y pc = some (.invokevirtual ix, 3)) (hw : zown y = w) (hr : zres w ix = some k) (hk : k < 152 ∧ zkind k = 1 ∧ znar k = 4 ∧ zml k = m) (hm : Nat.ble 5 m = true) (hE : zX q d k 0 l0 [] M o1 zEv) (hc : zcats (v4 :: v3 :: v2 :: v1 :: .ref a :: st) = true) (hz : zroom st = true) (hl : zent m [.ref a, v1, v2, v3, v4] = l0) (hp : pc + 3 = p) (h : ∀ M, zX q (d + 1) y p ls st M (f M) E) : zX q (d + 1) y pc ls (v4 :: v3 :: v2 :: v1 :: .ref a :: st) M (o1.bind f) E := by
  obtain rfl := hk.2.2.2
  subst hp; subst hw; subst hl
  intro b hb r M' he
  cases o1 with
  | none => cases hb
  | some v =>
    refine zEnds_call (k := k) (as := [.ref a, v1, v2, v3, v4]) (rest := st) (r1 := none) (M1 := v) hd ?_ (Nat.le_of_ble_eq_true hm) (hE v rfl _ _ ⟨rfl, rfl⟩) ?_
    · simp only [zstep, zcallV, if_true, hr]; rw [if_neg (by omega), if_neg (by omega), if_pos ⟨hk.1, hk.2.1⟩, hk.2.2.1]; simp only [List.drop_succ_cons, List.drop_zero]; rw [zinh_cls ho hc2.2.1]; simp only; rw [if_pos ⟨by simp [zrecv, ho.1, (zL_app (X := q.2.2) ho.2), hc2.1, zCL]; omega, hc2.2.2, hc, hz⟩]; rfl
    · exact h v b hb r M' he
theorem zX_cV5i {α : Type} {q : ZQ} {d y pc p ix w k : Nat} {ls l0 : List Slot} {st : List Value} {M : ZI} {o1 : Option Int32} {f : Int32 → Option α} {E : α → Option Value → ZI → Prop} {m : Nat} {v1 v2 v3 v4 v5 : Value} {a c : Nat} (hc2 : zown k = c ∧ c < 10 ∧ zdir k = true) (ho : zOb c a) (hd : zdec y pc = some (.invokevirtual ix, 3)) (hw : zown y = w) (hr : zres w ix = some k) (hk : k < 152 ∧ zkind k = 1 ∧ znar k = 5 ∧ zml k = m) (hm : Nat.ble 6 m = true) (hE : zX q d k 0 l0 [] M o1 (zEi M)) (hc : zcats (v5 :: v4 :: v3 :: v2 :: v1 :: .ref a :: st) = true) (hz : zroom st = true) (hl : zent m [.ref a, v1, v2, v3, v4, v5] = l0) (hp : pc + 3 = p) (h : ∀ v, zX q (d + 1) y p ls (.int v :: st) M (f v) E) : zX q (d + 1) y pc ls (v5 :: v4 :: v3 :: v2 :: v1 :: .ref a :: st) M (o1.bind f) E := by
  obtain rfl := hk.2.2.2
  subst hp; subst hw; subst hl
  intro b hb r M' he
  cases o1 with
  | none => cases hb
  | some v =>
    refine zEnds_call (k := k) (as := [.ref a, v1, v2, v3, v4, v5]) (rest := st) (r1 := (some (.int v))) (M1 := M) hd ?_ (Nat.le_of_ble_eq_true hm) (hE v rfl _ _ ⟨rfl, rfl⟩) ?_
    · simp only [zstep, zcallV, if_true, hr]; rw [if_neg (by omega), if_neg (by omega), if_pos ⟨hk.1, hk.2.1⟩, hk.2.2.1]; simp only [List.drop_succ_cons, List.drop_zero]; rw [zinh_cls ho hc2.2.1]; simp only; rw [if_pos ⟨by simp [zrecv, ho.1, (zL_app (X := q.2.2) ho.2), hc2.1, zCL]; omega, hc2.2.2, hc, hz⟩]; rfl
    · exact h v b hb r M' he
theorem zX_cV5m {α : Type} {q : ZQ} {d y pc p ix w k : Nat} {ls l0 : List Slot} {st : List Value} {M : ZI} {o1 : Option (Int32 × ZI)} {f : Int32 × ZI → Option α} {E : α → Option Value → ZI → Prop} {m : Nat} {v1 v2 v3 v4 v5 : Value} {a c : Nat} (hc2 : zown k = c ∧ c < 10 ∧ zdir k = true) (ho : zOb c a) (hd : zdec y pc = some (.invokevirtual ix, 3)) (hw : zown y = w) (hr : zres w ix = some k) (hk : k < 152 ∧ zkind k = 1 ∧ znar k = 5 ∧ zml k = m) (hm : Nat.ble 6 m = true) (hE : zX q d k 0 l0 [] M o1 zEm) (hc : zcats (v5 :: v4 :: v3 :: v2 :: v1 :: .ref a :: st) = true) (hz : zroom st = true) (hl : zent m [.ref a, v1, v2, v3, v4, v5] = l0) (hp : pc + 3 = p) (h : ∀ v M, zX q (d + 1) y p ls (.int v :: st) M (f (v, M)) E) : zX q (d + 1) y pc ls (v5 :: v4 :: v3 :: v2 :: v1 :: .ref a :: st) M (o1.bind f) E := by
  obtain rfl := hk.2.2.2
  subst hp; subst hw; subst hl
  intro b hb r M' he
  cases o1 with
  | none => cases hb
  | some v =>
    refine zEnds_call (k := k) (as := [.ref a, v1, v2, v3, v4, v5]) (rest := st) (r1 := (some (.int v.1))) (M1 := v.2) hd ?_ (Nat.le_of_ble_eq_true hm) (hE v rfl _ _ ⟨rfl, rfl⟩) ?_
    · simp only [zstep, zcallV, if_true, hr]; rw [if_neg (by omega), if_neg (by omega), if_pos ⟨hk.1, hk.2.1⟩, hk.2.2.1]; simp only [List.drop_succ_cons, List.drop_zero]; rw [zinh_cls ho hc2.2.1]; simp only; rw [if_pos ⟨by simp [zrecv, ho.1, (zL_app (X := q.2.2) ho.2), hc2.1, zCL]; omega, hc2.2.2, hc, hz⟩]; rfl
    · exact h v.1 v.2 b hb r M' he
theorem zX_cV5v {α : Type} {q : ZQ} {d y pc p ix w k : Nat} {ls l0 : List Slot} {st : List Value} {M : ZI} {o1 : Option ZI} {f : ZI → Option α} {E : α → Option Value → ZI → Prop} {m : Nat} {v1 v2 v3 v4 v5 : Value} {a c : Nat} (hc2 : zown k = c ∧ c < 10 ∧ zdir k = true) (ho : zOb c a) (hd : zdec y pc = some (.invokevirtual ix, 3)) (hw : zown y = w) (hr : zres w ix = some k) (hk : k < 152 ∧ zkind k = 1 ∧ znar k = 5 ∧ zml k = m) (hm : Nat.ble 6 m = true) (hE : zX q d k 0 l0 [] M o1 zEv) (hc : zcats (v5 :: v4 :: v3 :: v2 :: v1 :: .ref a :: st) = true) (hz : zroom st = true) (hl : zent m [.ref a, v1, v2, v3, v4, v5] = l0) (hp : pc + 3 = p) (h : ∀ M, zX q (d + 1) y p ls st M (f M) E) : zX q (d + 1) y pc ls (v5 :: v4 :: v3 :: v2 :: v1 :: .ref a :: st) M (o1.bind f) E := by
  obtain rfl := hk.2.2.2
  subst hp; subst hw; subst hl
  intro b hb r M' he
  cases o1 with
  | none => cases hb
  | some v =>
    refine zEnds_call (k := k) (as := [.ref a, v1, v2, v3, v4, v5]) (rest := st) (r1 := none) (M1 := v) hd ?_ (Nat.le_of_ble_eq_true hm) (hE v rfl _ _ ⟨rfl, rfl⟩) ?_
    · simp only [zstep, zcallV, if_true, hr]; rw [if_neg (by omega), if_neg (by omega), if_pos ⟨hk.1, hk.2.1⟩, hk.2.2.1]; simp only [List.drop_succ_cons, List.drop_zero]; rw [zinh_cls ho hc2.2.1]; simp only; rw [if_pos ⟨by simp [zrecv, ho.1, (zL_app (X := q.2.2) ho.2), hc2.1, zCL]; omega, hc2.2.2, hc, hz⟩]; rfl
    · exact h v b hb r M' he
