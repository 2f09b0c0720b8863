-- ===== CONSTRUCTORS: what they lay, as functions over the whole heap =====
def zY (sc : ZS) (d y pc : Nat) (ls : List Slot) (st : List Value) (h : ZH) (o : Option ZH) : Prop := ∀ h', o = some h' → ∃ n, zrun sc n d y pc ls st h = some (none, h')
theorem zY_step {sc : ZS} {d y pc p : Nat} {ls ls' : List Slot} {st st' : List Value} {h h1 : ZH} {o : Option ZH} {ins : Instr} {len : Nat} (hd : zdec y pc = some (ins, len)) (hs : zstep sc y pc ins len ls st h = zn p ls' st' h1) (k : zY sc d y p ls' st' h1 o) : zY sc d y pc ls st h o := by
  intro h' ho
  obtain ⟨n, hn⟩ := k h' ho
  refine ⟨n + 1, ?_⟩
  unfold zrun
  rw [hd]
  simp only
  rw [hs]
  exact hn
theorem zY_none {sc : ZS} {d y pc : Nat} {ls : List Slot} {st : List Value} {h : ZH} : zY sc d y pc ls st h none := fun _ h => nomatch h
theorem zY_grd {sc : ZS} {d y pc : Nat} {ls : List Slot} {st : List Value} {h : ZH} {c : Bool} {o : Option ZH} (k : c = true → zY sc d y pc ls st h o) : zY sc d y pc ls st h (if c = true then o else none) := by
  split
  · exact k ‹_›
  · exact zY_none
def zat2 {α β γ : Type} (a : α) (b : β) (f : α → β → γ) : γ := f a b
def zqn (h : ZH) : Bool := Nat.blt h.2.2.length 999999
def zqo (h : ZH) (o c : Nat) : Bool := Nat.blt o 1000000 && (match h.2.2[o]? with
  | some q => Nat.beq q.1 (c + 3)
  | none => false)
def zqr (h : ZH) (o c r : Nat) : Bool := Nat.blt o 1000000 && Nat.blt r 1000000 && (match h.2.2[o]? with
  | some q => Nat.beq q.1 (c + 3)
  | none => false)
def zqf (h : ZH) (o c k r : Nat) : Bool := zqo h o c && (match h.2.1 o k with
  | some x => Nat.beq x r
  | none => false)
def zqa (h : ZH) (o v i : Nat) : Bool := (match h.2.2[o]? with
  | some q => Nat.beq q.1 2 && Nat.blt i q.2
  | none => false) && (match h.2.2[v]? with
  | some q => Nat.beq q.1 5
  | none => false)
def zqi (h : ZH) (o i : Nat) : Bool := (match h.2.2[o]? with
  | some q => Nat.beq q.1 0 && Nat.blt i q.2
  | none => false)
def zpr (h : ZH) (o k r : Nat) : ZH := (h.1, zw h.2.1 o (zw (h.2.1 o) k (some r)), h.2.2)
def zpi (h : ZH) (o k : Nat) (x : Int32) : ZH := (zw h.1 o (upd (h.1 o) k x), h.2)
theorem zY_new {sc : ZS} {d y pc p w ix c n : Nat} {ls : List Slot} {st : List Value} {h : ZH} {f : Nat → ZH → Option ZH} (hd : zdec y pc = some (.new ix, 3)) (hw : zown y = w) (hc : znew w ix = some c ∧ c < zCL.length ∧ zN c = n) (hp : pc + 3 = p) (k : ∀ r h1, zY sc d y p ls (.ref r :: st) h1 (f r h1)) : zY sc d y pc ls st h (if zqn h = true then zat2 h.2.2.length (zmk h (3 + c, n)) f else none) := by
  subst hw; subst hp
  obtain ⟨h1, h2, rfl⟩ := hc
  refine zY_grd fun hg => zY_step hd ?_ (k _ _)
  have := Nat.blt_eq.mp hg
  simp only [zstep, if_true, zmko, h1]
  rw [if_pos ⟨h2, this⟩]
theorem zY_arr {sc : ZS} {d y pc p kd len n : Nat} {i : Int32} {ins : Instr} {ls : List Slot} {st : List Value} {h : ZH} {f : Nat → ZH → Option ZH} (hd : zdec y pc = some (ins, len)) (hs : ∀ sc y pc ls st h, zstep sc y pc ins len ls st h = zmka kd len pc ls st h) (hi : i.toNatClampNeg = n ∧ ¬ i < 0 ∧ n ≤ 100000) (hp : pc + len = p) (k : ∀ r h1, zY sc d y p ls (.ref r :: st) h1 (f r h1)) : zY sc d y pc ls (.int i :: st) h (if zqn h = true then zat2 h.2.2.length (zmk h (kd, n)) f else none) := by
  subst hp
  obtain ⟨rfl, h1, h2⟩ := hi
  refine zY_grd fun hg => zY_step hd ?_ (k _ _)
  have := Nat.blt_eq.mp hg
  rw [hs]
  simp only [zmka]
  rw [if_pos ⟨h1, h2, this⟩]
theorem zY_pr {sc : ZS} {d y pc p w ix c k a r : Nat} {ls : List Slot} {st : List Value} {h : ZH} {f : ZH → Option ZH} (hd : zdec y pc = some (.putfield ix, 3)) (hw : zown y = w) (hf : zfld w ix = some (c, k) ∧ k < zN c ∧ zfk c k = 2) (hy : zfo y c k = true) (hp : pc + 3 = p) (kk : ∀ h1, zY sc d y p ls st h1 (f h1)) : zY sc d y pc ls (.ref r :: .ref a :: st) h (if zqr h a c r = true then zlet (zpr h a k r) f else none) := by
  subst hw; subst hp
  refine zY_grd fun hg => zY_step hd ?_ (kk _)
  simp only [zqr, Bool.and_eq_true, Nat.blt_eq] at hg
  cases hq : h.2.2[a]? with
  | none => rw [hq] at hg; simp at hg
  | some q =>
    rw [hq] at hg
    simp only [Nat.beq_eq] at hg
    simp only [zstep, if_true, zput, hf.1, hq]
    rw [if_pos ⟨hg.2, hf.2.1, hf.2.2, hy, hg.1.2⟩]
    rfl
theorem zY_pi {sc : ZS} {d y pc p w ix c k a : Nat} {x : Int32} {ls : List Slot} {st : List Value} {h : ZH} {f : ZH → Option ZH} (hd : zdec y pc = some (.putfield ix, 3)) (hw : zown y = w) (hf : zfld w ix = some (c, k) ∧ k < zN c ∧ (zfk c k = 0 ∨ (zfk c k = 1 ∨ zfk c k = 3) ∧ (x = 0 ∨ x = 1))) (hy : zfo y c k = true) (hp : pc + 3 = p) (kk : ∀ h1, zY sc d y p ls st h1 (f h1)) : zY sc d y pc ls (.int x :: .ref a :: st) h (if zqo h a c = true then zlet (zpi h a k x) f else none) := by
  subst hw; subst hp
  refine zY_grd fun hg => zY_step hd ?_ (kk _)
  simp only [zqo, Bool.and_eq_true, Nat.blt_eq] at hg
  cases hq : h.2.2[a]? with
  | none => rw [hq] at hg; simp at hg
  | some q =>
    rw [hq] at hg
    simp only [Nat.beq_eq] at hg
    simp only [zstep, if_true, zput, hf.1, hq]
    rw [if_pos ⟨hg.2, hf.2.1, hf.2.2, hy⟩]
    rfl
theorem zY_gr {sc : ZS} {d y pc p w ix c k a r : Nat} {ls : List Slot} {st : List Value} {h : ZH} {o : Option ZH} (hd : zdec y pc = some (.getfield ix, 3)) (hw : zown y = w) (hf : zfld w ix = some (c, k) ∧ k < zN c ∧ zfk c k = 2) (hp : pc + 3 = p) (kk : zY sc d y p ls (.ref r :: st) h o) : zY sc d y pc ls (.ref a :: st) h (if zqf h a c k r = true then o else none) := by
  subst hw; subst hp
  refine zY_grd fun hg => zY_step hd ?_ kk
  simp only [zqf, zqo, Bool.and_eq_true, Nat.blt_eq] at hg
  obtain ⟨⟨h1, h2⟩, h3⟩ := hg
  cases hq : h.2.2[a]? with
  | none => rw [hq] at h2; simp at h2
  | some q =>
    rw [hq] at h2
    simp only [Nat.beq_eq] at h2
    cases hr : h.2.1 a k with
    | none => rw [hr] at h3; simp at h3
    | some x =>
      rw [hr] at h3
      simp only [Nat.beq_eq] at h3
      subst h3
      simp only [zstep, if_true, zget, hf.1, hq, if_pos h1]
      rw [if_pos ⟨h2, hf.2.1⟩, if_pos hf.2.2, hr]
      rfl
theorem zY_aas {sc : ZS} {d y pc p a v n : Nat} {i : Int32} {ls : List Slot} {st : List Value} {h : ZH} {f : ZH → Option ZH} (hd : zdec y pc = some (.aastore, 1)) (hi : i.toNatClampNeg = n ∧ ¬ i < 0) (hp : pc + 1 = p) (kk : ∀ h1, zY sc d y p ls st h1 (f h1)) : zY sc d y pc ls (.ref v :: .int i :: .ref a :: st) h (if zqa h a v n = true then zlet (zpr h a n v) f else none) := by
  subst hp
  obtain ⟨rfl, hn⟩ := hi
  refine zY_grd fun hg => zY_step hd ?_ (kk _)
  simp only [zqa, Bool.and_eq_true] at hg
  obtain ⟨h1, h2⟩ := hg
  cases hq : h.2.2[a]? with
  | none => rw [hq] at h1; simp at h1
  | some q =>
    cases hv : h.2.2[v]? with
    | none => rw [hv] at h2; simp at h2
    | some qv =>
      rw [hq] at h1; rw [hv] at h2
      simp only [Bool.and_eq_true, Nat.beq_eq, Nat.blt_eq] at h1 h2
      simp only [zstep, if_true, zast, hq, hv]
      rw [if_pos ⟨by rw [h1.1]; rfl, trivial, by rw [h1.1]; exact h2, fun h => h.elim hn (by omega)⟩]
      rfl
theorem zY_ias {sc : ZS} {d y pc p a n : Nat} {i x : Int32} {ls : List Slot} {st : List Value} {h : ZH} {f : ZH → Option ZH} (hd : zdec y pc = some (.iastore, 1)) (hi : i.toNatClampNeg = n ∧ ¬ i < 0) (hp : pc + 1 = p) (kk : ∀ h1, zY sc d y p ls st h1 (f h1)) : zY sc d y pc ls (.int x :: .int i :: .ref a :: st) h (if zqi h a n = true then zlet (zpi h a n x) f else none) := by
  subst hp
  obtain ⟨rfl, hn⟩ := hi
  refine zY_grd fun hg => zY_step hd ?_ (kk _)
  simp only [zqi] at hg
  cases hq : h.2.2[a]? with
  | none => rw [hq] at hg; simp at hg
  | some q =>
    rw [hq] at hg
    simp only [Bool.and_eq_true, Nat.beq_eq, Nat.blt_eq] at hg
    simp only [zstep, if_true, zast, hq]
    rw [if_pos ⟨by rw [hg.1]; rfl, by decide, fun h => h.elim hn (by omega)⟩, hg.1]
    rfl
theorem zY_obj {sc : ZS} {d y pc p w ix a : Nat} {ls : List Slot} {st : List Value} {h : ZH} {o : Option ZH} (hd : zdec y pc = some (.invokespecial ix, 3)) (hw : zown y = w) (hr : zres w ix = some 1003) (hz : zroom st = true) (hp : pc + 3 = p) (kk : zY sc d y p ls st h o) : zY sc d y pc ls (.ref a :: st) h (if Nat.blt a 1000000 = true then o else none) := by
  subst hw; subst hp
  refine zY_grd fun hg => zY_step hd ?_ kk
  simp only [zstep, if_true, zcallI, hr]
  rw [if_pos ⟨Nat.blt_eq.mp hg, hz⟩]
theorem zEndsH_call {sc : ZS} {d y pc p w ix k m a : Nat} {ls l0 : List Slot} {st : List Value} {h h1 : ZH} {r : Option Value} {h' : ZH} {o1 : Option ZH} (hd : zdec y pc = some (.invokespecial ix, 3)) (hw : zown y = w) (hr : zres w ix = some k) (hk : k < zNM ∧ zkind k = 2 ∧ znar k = 0 ∧ zml k = m) (hm : Nat.ble 1 m = true) (hE : zY sc d k 0 l0 [] h o1) (ho : o1 = some h1) (hc : zcats (.ref a :: st) = true) (hz : zroom st = true) (hl : zent m [.ref a] = l0) (hp : pc + 3 = p) (ha : a < 1000000) (kk : ∃ n, zrun sc n (d + 1) y p ls st h1 = some (r, h')) : ∃ n, zrun sc n (d + 1) y pc ls (.ref a :: st) h = some (r, h') := by
  obtain rfl := hk.2.2.2
  subst hw; subst hp; subst hl
  obtain ⟨n1, e1⟩ := hE _ ho
  obtain ⟨n2, e2⟩ := kk
  refine ⟨max n1 n2 + 1, ?_⟩
  unfold zrun
  rw [hd]
  simp only [zstep, if_true, zcallI, hr]
  rw [if_neg (by have h0 := hk.1; unfold zNM at h0; omega), if_pos ⟨hk.1, hk.2.1⟩, hk.2.2.1]
  simp only [List.drop_zero, List.take_zero, List.reverse_nil]
  rw [if_pos ⟨ha, hc, hz⟩]
  simp only
  rw [if_pos (show [Value.ref a].length ≤ zml k from Nat.le_of_ble_eq_true hm), zrun_le sc n1 (max n1 n2) _ _ _ _ _ _ _ (Nat.le_max_left _ _) e1]
  simp only
  exact zrun_le sc n2 (max n1 n2) _ _ _ _ _ _ _ (Nat.le_max_right _ _) e2
theorem zY_call {sc : ZS} {d y pc p w ix k m a : Nat} {ls l0 : List Slot} {st : List Value} {h : ZH} {o1 : Option ZH} {f : ZH → Option ZH} (hd : zdec y pc = some (.invokespecial ix, 3)) (hw : zown y = w) (hr : zres w ix = some k) (hk : k < zNM ∧ zkind k = 2 ∧ znar k = 0 ∧ zml k = m) (hm : Nat.ble 1 m = true) (hE : zY sc d k 0 l0 [] h o1) (hc : zcats (.ref a :: st) = true) (hz : zroom st = true) (hl : zent m [.ref a] = l0) (hp : pc + 3 = p) (kk : ∀ h1, zY sc (d + 1) y p ls st h1 (f h1)) : zY sc (d + 1) y pc ls (.ref a :: st) h (if Nat.blt a 1000000 = true then o1.bind f else none) := by
  refine zY_grd fun hg => ?_
  intro h' hb
  cases o1 with
  | none => cases hb
  | some h1 => exact zEndsH_call hd hw hr hk hm hE rfl hc hz hl hp (Nat.blt_eq.mp hg) (kk h1 h' hb)
theorem zY_ret {sc : ZS} {d y pc : Nat} {ls : List Slot} {h : ZH} (hd : zdec y pc = some (.return_, 1)) (hr : zret y = none) : zY sc d y pc ls [] h (some h) := by
  intro h' ho
  cases ho
  exact ⟨1, by simp [zrun, hd, zstep, hr]⟩
theorem zY_arr2 {sc : ZS} {d y pc p ix n : Nat} {i : Int32} {ls : List Slot} {st : List Value} {h : ZH} {f : Nat → ZH → Option ZH} (hd : zdec y pc = some (.anewarray ix, 3)) (hs : znew (zown y) ix = some 2) (hi : i.toNatClampNeg = n ∧ ¬ i < 0 ∧ n ≤ 100000) (hp : pc + 3 = p) (k : ∀ r h1, zY sc d y p ls (.ref r :: st) h1 (f r h1)) : zY sc d y pc ls (.int i :: st) h (if zqn h = true then zat2 h.2.2.length (zmk h (2, n)) f else none) := by
  subst hp
  obtain ⟨rfl, h1, h2⟩ := hi
  refine zY_grd fun hg => zY_step hd ?_ (k _ _)
  have := Nat.blt_eq.mp hg
  simp only [zstep, hs]
  simp only [if_true]
  simp only [zmka]
  rw [if_pos ⟨h1, h2, this⟩]
theorem ow_2c : zown 2 = 2 := rfl
theorem kd_2 : zkind 2 = 2 := rfl
theorem rt_2c : zret 2 = none := rfl
theorem rc_2_3 : zres 2 3 = some 1003 := by decide +kernel
theorem pf_2_9 : zfld 2 9 = some (2, 0) ∧ 0 < zN 2 ∧ zfk 2 0 = 2 := by decide +kernel
theorem pf_2_15 : zfld 2 15 = some (2, 1) ∧ 1 < zN 2 ∧ zfk 2 1 = 2 := by decide +kernel
theorem pf_2_18 : zfld 2 18 = some (2, 2) ∧ 2 < zN 2 ∧ zfk 2 2 = 2 := by decide +kernel
theorem pf_2_21 : zfld 2 21 = some (2, 3) ∧ 3 < zN 2 ∧ zfk 2 3 = 2 := by decide +kernel
def c2 (a : Nat) (h : ZH) : Option ZH :=
  if Nat.blt a 1000000 = true then if zqn h = true then zat2 h.2.2.length (zmk h (0, 10)) fun r1 h2 => if zqr h2 a 2 r1 = true then zlet (zpr h2 a 0 r1) fun h3 => if zqn h3 = true then zat2 h3.2.2.length (zmk h3 (0, 10)) fun r4 h5 => if zqr h5 a 2 r4 = true then zlet (zpr h5 a 1 r4) fun h6 => if zqn h6 = true then zat2 h6.2.2.length (zmk h6 (0, 10)) fun r7 h8 => if zqr h8 a 2 r7 = true then zlet (zpr h8 a 2 r7) fun h9 => if zqn h9 = true then zat2 h9.2.2.length (zmk h9 (0, 10)) fun r10 h11 => if zqr h11 a 2 r10 = true then zlet (zpr h11 a 3 r10) fun h12 => some h12 else none else none else none else none else none else none else none else none else none
theorem t2 {sc : ZS} {d a : Nat} {h : ZH} : zY sc (d + 0) 2 0 [.val (.ref a)] [] h (c2 a h) := by
  unfold c2
  refine zY_step (p := 1) (ls' := [.val (.ref a)]) (st' := [.ref a]) d_2_0 rfl ?_
  refine zY_obj (p := 4) d_2_1 ow_2c rc_2_3 rfl rfl ?_
  refine zY_step (p := 5) (ls' := [.val (.ref a)]) (st' := [.ref a]) d_2_4 rfl ?_
  refine zY_step (p := 7) (ls' := [.val (.ref a)]) (st' := [.int (10 : Int32), .ref a]) d_2_5 rfl ?_
  refine zY_arr (p := 9) (kd := 0) (n := 10) d_2_7 (fun _ _ _ _ _ _ => rfl) ⟨by decide, by decide, by decide⟩ rfl (fun r1 h2 => ?_)
  refine zY_pr (p := 12) d_2_9 ow_2c pf_2_9 (by decide +kernel) rfl (fun h3 => ?_)
  refine zY_step (p := 13) (ls' := [.val (.ref a)]) (st' := [.ref a]) d_2_12 rfl ?_
  refine zY_step (p := 15) (ls' := [.val (.ref a)]) (st' := [.int (10 : Int32), .ref a]) d_2_13 rfl ?_
  refine zY_arr (p := 17) (kd := 0) (n := 10) d_2_15 (fun _ _ _ _ _ _ => rfl) ⟨by decide, by decide, by decide⟩ rfl (fun r4 h5 => ?_)
  refine zY_pr (p := 20) d_2_17 ow_2c pf_2_15 (by decide +kernel) rfl (fun h6 => ?_)
  refine zY_step (p := 21) (ls' := [.val (.ref a)]) (st' := [.ref a]) d_2_20 rfl ?_
  refine zY_step (p := 23) (ls' := [.val (.ref a)]) (st' := [.int (10 : Int32), .ref a]) d_2_21 rfl ?_
  refine zY_arr (p := 25) (kd := 0) (n := 10) d_2_23 (fun _ _ _ _ _ _ => rfl) ⟨by decide, by decide, by decide⟩ rfl (fun r7 h8 => ?_)
  refine zY_pr (p := 28) d_2_25 ow_2c pf_2_18 (by decide +kernel) rfl (fun h9 => ?_)
  refine zY_step (p := 29) (ls' := [.val (.ref a)]) (st' := [.ref a]) d_2_28 rfl ?_
  refine zY_step (p := 31) (ls' := [.val (.ref a)]) (st' := [.int (10 : Int32), .ref a]) d_2_29 rfl ?_
  refine zY_arr (p := 33) (kd := 0) (n := 10) d_2_31 (fun _ _ _ _ _ _ => rfl) ⟨by decide, by decide, by decide⟩ rfl (fun r10 h11 => ?_)
  refine zY_pr (p := 36) d_2_33 ow_2c pf_2_21 (by decide +kernel) rfl (fun h12 => ?_)
  exact zY_ret d_2_36 rt_2c
theorem ow_3c : zown 3 = 3 := rfl
theorem kd_3 : zkind 3 = 2 := rfl
theorem rt_3c : zret 3 = none := rfl
theorem rc_3_3 : zres 3 3 = some 1003 := by decide +kernel
theorem pf_3_9 : zfld 3 9 = some (3, 0) ∧ 0 < zN 3 ∧ zfk 3 0 = 2 := by decide +kernel
theorem pf_3_15 : zfld 3 15 = some (3, 1) ∧ 1 < zN 3 ∧ zfk 3 1 = 2 := by decide +kernel
theorem pf_3_18 : zfld 3 18 = some (3, 2) ∧ 2 < zN 3 ∧ zfk 3 2 = 2 := by decide +kernel
theorem pf_3_21 : zfld 3 21 = some (3, 3) ∧ 3 < zN 3 ∧ zfk 3 3 = 2 := by decide +kernel
def c3 (a : Nat) (h : ZH) : Option ZH :=
  if Nat.blt a 1000000 = true then if zqn h = true then zat2 h.2.2.length (zmk h (0, 150)) fun r1 h2 => if zqr h2 a 3 r1 = true then zlet (zpr h2 a 0 r1) fun h3 => if zqn h3 = true then zat2 h3.2.2.length (zmk h3 (0, 150)) fun r4 h5 => if zqr h5 a 3 r4 = true then zlet (zpr h5 a 1 r4) fun h6 => if zqn h6 = true then zat2 h6.2.2.length (zmk h6 (0, 150)) fun r7 h8 => if zqr h8 a 3 r7 = true then zlet (zpr h8 a 2 r7) fun h9 => if zqn h9 = true then zat2 h9.2.2.length (zmk h9 (0, 150)) fun r10 h11 => if zqr h11 a 3 r10 = true then zlet (zpr h11 a 3 r10) fun h12 => some h12 else none else none else none else none else none else none else none else none else none
theorem t3 {sc : ZS} {d a : Nat} {h : ZH} : zY sc (d + 0) 3 0 [.val (.ref a)] [] h (c3 a h) := by
  unfold c3
  refine zY_step (p := 1) (ls' := [.val (.ref a)]) (st' := [.ref a]) d_3_0 rfl ?_
  refine zY_obj (p := 4) d_3_1 ow_3c rc_3_3 rfl rfl ?_
  refine zY_step (p := 5) (ls' := [.val (.ref a)]) (st' := [.ref a]) d_3_4 rfl ?_
  refine zY_step (p := 8) (ls' := [.val (.ref a)]) (st' := [.int (150 : Int32), .ref a]) d_3_5 rfl ?_
  refine zY_arr (p := 10) (kd := 0) (n := 150) d_3_8 (fun _ _ _ _ _ _ => rfl) ⟨by decide, by decide, by decide⟩ rfl (fun r1 h2 => ?_)
  refine zY_pr (p := 13) d_3_10 ow_3c pf_3_9 (by decide +kernel) rfl (fun h3 => ?_)
  refine zY_step (p := 14) (ls' := [.val (.ref a)]) (st' := [.ref a]) d_3_13 rfl ?_
  refine zY_step (p := 17) (ls' := [.val (.ref a)]) (st' := [.int (150 : Int32), .ref a]) d_3_14 rfl ?_
  refine zY_arr (p := 19) (kd := 0) (n := 150) d_3_17 (fun _ _ _ _ _ _ => rfl) ⟨by decide, by decide, by decide⟩ rfl (fun r4 h5 => ?_)
  refine zY_pr (p := 22) d_3_19 ow_3c pf_3_15 (by decide +kernel) rfl (fun h6 => ?_)
  refine zY_step (p := 23) (ls' := [.val (.ref a)]) (st' := [.ref a]) d_3_22 rfl ?_
  refine zY_step (p := 26) (ls' := [.val (.ref a)]) (st' := [.int (150 : Int32), .ref a]) d_3_23 rfl ?_
  refine zY_arr (p := 28) (kd := 0) (n := 150) d_3_26 (fun _ _ _ _ _ _ => rfl) ⟨by decide, by decide, by decide⟩ rfl (fun r7 h8 => ?_)
  refine zY_pr (p := 31) d_3_28 ow_3c pf_3_18 (by decide +kernel) rfl (fun h9 => ?_)
  refine zY_step (p := 32) (ls' := [.val (.ref a)]) (st' := [.ref a]) d_3_31 rfl ?_
  refine zY_step (p := 35) (ls' := [.val (.ref a)]) (st' := [.int (150 : Int32), .ref a]) d_3_32 rfl ?_
  refine zY_arr (p := 37) (kd := 0) (n := 150) d_3_35 (fun _ _ _ _ _ _ => rfl) ⟨by decide, by decide, by decide⟩ rfl (fun r10 h11 => ?_)
  refine zY_pr (p := 40) d_3_37 ow_3c pf_3_21 (by decide +kernel) rfl (fun h12 => ?_)
  exact zY_ret d_3_40 rt_3c
theorem ow_5c : zown 5 = 5 := rfl
theorem kd_5 : zkind 5 = 2 := rfl
theorem rt_5c : zret 5 = none := rfl
theorem rc_5_3 : zres 5 3 = some 1003 := by decide +kernel
theorem pf_5_9 : zfld 5 9 = some (5, 0) ∧ 0 < zN 5 ∧ zfk 5 0 = 2 := by decide +kernel
theorem pf_5_15 : zfld 5 15 = some (5, 1) ∧ 1 < zN 5 ∧ zfk 5 1 = 2 := by decide +kernel
theorem pf_5_18 : zfld 5 18 = some (5, 2) ∧ 2 < zN 5 ∧ zfk 5 2 = 2 := by decide +kernel
def c5 (a : Nat) (h : ZH) : Option ZH :=
  if Nat.blt a 1000000 = true then if zqn h = true then zat2 h.2.2.length (zmk h (0, 400)) fun r1 h2 => if zqr h2 a 5 r1 = true then zlet (zpr h2 a 0 r1) fun h3 => if zqn h3 = true then zat2 h3.2.2.length (zmk h3 (0, 400)) fun r4 h5 => if zqr h5 a 5 r4 = true then zlet (zpr h5 a 1 r4) fun h6 => if zqn h6 = true then zat2 h6.2.2.length (zmk h6 (0, 64)) fun r7 h8 => if zqr h8 a 5 r7 = true then zlet (zpr h8 a 2 r7) fun h9 => some h9 else none else none else none else none else none else none else none
theorem t5 {sc : ZS} {d a : Nat} {h : ZH} : zY sc (d + 0) 5 0 [.val (.ref a)] [] h (c5 a h) := by
  unfold c5
  refine zY_step (p := 1) (ls' := [.val (.ref a)]) (st' := [.ref a]) d_5_0 rfl ?_
  refine zY_obj (p := 4) d_5_1 ow_5c rc_5_3 rfl rfl ?_
  refine zY_step (p := 5) (ls' := [.val (.ref a)]) (st' := [.ref a]) d_5_4 rfl ?_
  refine zY_step (p := 8) (ls' := [.val (.ref a)]) (st' := [.int (400 : Int32), .ref a]) d_5_5 rfl ?_
  refine zY_arr (p := 10) (kd := 0) (n := 400) d_5_8 (fun _ _ _ _ _ _ => rfl) ⟨by decide, by decide, by decide⟩ rfl (fun r1 h2 => ?_)
  refine zY_pr (p := 13) d_5_10 ow_5c pf_5_9 (by decide +kernel) rfl (fun h3 => ?_)
  refine zY_step (p := 14) (ls' := [.val (.ref a)]) (st' := [.ref a]) d_5_13 rfl ?_
  refine zY_step (p := 17) (ls' := [.val (.ref a)]) (st' := [.int (400 : Int32), .ref a]) d_5_14 rfl ?_
  refine zY_arr (p := 19) (kd := 0) (n := 400) d_5_17 (fun _ _ _ _ _ _ => rfl) ⟨by decide, by decide, by decide⟩ rfl (fun r4 h5 => ?_)
  refine zY_pr (p := 22) d_5_19 ow_5c pf_5_15 (by decide +kernel) rfl (fun h6 => ?_)
  refine zY_step (p := 23) (ls' := [.val (.ref a)]) (st' := [.ref a]) d_5_22 rfl ?_
  refine zY_step (p := 25) (ls' := [.val (.ref a)]) (st' := [.int (64 : Int32), .ref a]) d_5_23 rfl ?_
  refine zY_arr (p := 27) (kd := 0) (n := 64) d_5_25 (fun _ _ _ _ _ _ => rfl) ⟨by decide, by decide, by decide⟩ rfl (fun r7 h8 => ?_)
  refine zY_pr (p := 30) d_5_27 ow_5c pf_5_18 (by decide +kernel) rfl (fun h9 => ?_)
  exact zY_ret d_5_30 rt_5c
theorem ow_4c : zown 4 = 4 := rfl
theorem kd_4 : zkind 4 = 2 := rfl
theorem rt_4c : zret 4 = none := rfl
theorem rc_4_3 : zres 4 3 = some 1003 := by decide +kernel
theorem nw_4_9 : znew 4 9 = some 5 ∧ 5 < zCL.length ∧ zN 5 = 4 := by decide +kernel
theorem rc_4_11 : zres 4 11 = some 5 := by decide +kernel
theorem pf_4_12 : zfld 4 12 = some (4, 0) ∧ 0 < zN 4 ∧ zfk 4 0 = 2 := by decide +kernel
theorem pf_4_18 : zfld 4 18 = some (4, 1) ∧ 1 < zN 4 ∧ zfk 4 1 = 2 := by decide +kernel
theorem pf_4_22 : zfld 4 22 = some (4, 2) ∧ 2 < zN 4 ∧ zfk 4 2 = 2 := by decide +kernel
theorem pf_4_25 : zfld 4 25 = some (4, 3) ∧ 3 < zN 4 ∧ zfk 4 3 = 2 := by decide +kernel
theorem pf_4_28 : zfld 4 28 = some (4, 4) ∧ 4 < zN 4 ∧ zfk 4 4 = 2 := by decide +kernel
def c4 (a : Nat) (h : ZH) : Option ZH :=
  if Nat.blt a 1000000 = true then if zqn h = true then zat2 h.2.2.length (zmk h (8, 4)) fun r1 h2 => if Nat.blt r1 1000000 = true then (c5 r1 h2).bind fun h3 => if zqr h3 a 4 r1 = true then zlet (zpr h3 a 0 r1) fun h4 => if zqn h4 = true then zat2 h4.2.2.length (zmk h4 (0, 16)) fun r5 h6 => if zqr h6 a 4 r5 = true then zlet (zpr h6 a 1 r5) fun h7 => if zqn h7 = true then zat2 h7.2.2.length (zmk h7 (0, 16)) fun r8 h9 => if zqr h9 a 4 r8 = true then zlet (zpr h9 a 2 r8) fun h10 => if zqn h10 = true then zat2 h10.2.2.length (zmk h10 (0, 16)) fun r11 h12 => if zqr h12 a 4 r11 = true then zlet (zpr h12 a 3 r11) fun h13 => if zqn h13 = true then zat2 h13.2.2.length (zmk h13 (0, 16)) fun r14 h15 => if zqr h15 a 4 r14 = true then zlet (zpr h15 a 4 r14) fun h16 => some h16 else none else none else none else none else none else none else none else none else none else none else none else none
theorem t4 {sc : ZS} {d a : Nat} {h : ZH} : zY sc (d + 1) 4 0 [.val (.ref a)] [] h (c4 a h) := by
  unfold c4
  refine zY_step (p := 1) (ls' := [.val (.ref a)]) (st' := [.ref a]) d_4_0 rfl ?_
  refine zY_obj (p := 4) d_4_1 ow_4c rc_4_3 rfl rfl ?_
  refine zY_step (p := 5) (ls' := [.val (.ref a)]) (st' := [.ref a]) d_4_4 rfl ?_
  refine zY_new (p := 8) d_4_5 ow_4c nw_4_9 rfl (fun r1 h2 => ?_)
  refine zY_step (p := 9) (ls' := [.val (.ref a)]) (st' := [.ref r1, .ref r1, .ref a]) d_4_8 rfl ?_
  refine zY_call (p := 12) (st := [.ref r1, .ref a]) d_4_9 ow_4c rc_4_11 kk_5 rfl (t5 (d := _)) rfl rfl rfl rfl (fun h3 => ?_)
  refine zY_pr (p := 15) d_4_12 ow_4c pf_4_12 (by decide +kernel) rfl (fun h4 => ?_)
  refine zY_step (p := 16) (ls' := [.val (.ref a)]) (st' := [.ref a]) d_4_15 rfl ?_
  refine zY_step (p := 18) (ls' := [.val (.ref a)]) (st' := [.int (16 : Int32), .ref a]) d_4_16 rfl ?_
  refine zY_arr (p := 20) (kd := 0) (n := 16) d_4_18 (fun _ _ _ _ _ _ => rfl) ⟨by decide, by decide, by decide⟩ rfl (fun r5 h6 => ?_)
  refine zY_pr (p := 23) d_4_20 ow_4c pf_4_18 (by decide +kernel) rfl (fun h7 => ?_)
  refine zY_step (p := 24) (ls' := [.val (.ref a)]) (st' := [.ref a]) d_4_23 rfl ?_
  refine zY_step (p := 26) (ls' := [.val (.ref a)]) (st' := [.int (16 : Int32), .ref a]) d_4_24 rfl ?_
  refine zY_arr (p := 28) (kd := 0) (n := 16) d_4_26 (fun _ _ _ _ _ _ => rfl) ⟨by decide, by decide, by decide⟩ rfl (fun r8 h9 => ?_)
  refine zY_pr (p := 31) d_4_28 ow_4c pf_4_22 (by decide +kernel) rfl (fun h10 => ?_)
  refine zY_step (p := 32) (ls' := [.val (.ref a)]) (st' := [.ref a]) d_4_31 rfl ?_
  refine zY_step (p := 34) (ls' := [.val (.ref a)]) (st' := [.int (16 : Int32), .ref a]) d_4_32 rfl ?_
  refine zY_arr (p := 36) (kd := 0) (n := 16) d_4_34 (fun _ _ _ _ _ _ => rfl) ⟨by decide, by decide, by decide⟩ rfl (fun r11 h12 => ?_)
  refine zY_pr (p := 39) d_4_36 ow_4c pf_4_25 (by decide +kernel) rfl (fun h13 => ?_)
  refine zY_step (p := 40) (ls' := [.val (.ref a)]) (st' := [.ref a]) d_4_39 rfl ?_
  refine zY_step (p := 42) (ls' := [.val (.ref a)]) (st' := [.int (16 : Int32), .ref a]) d_4_40 rfl ?_
  refine zY_arr (p := 44) (kd := 0) (n := 16) d_4_42 (fun _ _ _ _ _ _ => rfl) ⟨by decide, by decide, by decide⟩ rfl (fun r14 h15 => ?_)
  refine zY_pr (p := 47) d_4_44 ow_4c pf_4_28 (by decide +kernel) rfl (fun h16 => ?_)
  exact zY_ret d_4_47 rt_4c
theorem ow_6c : zown 6 = 6 := rfl
theorem kd_6 : zkind 6 = 2 := rfl
theorem rt_6c : zret 6 = none := rfl
theorem rc_6_3 : zres 6 3 = some 1003 := by decide +kernel
theorem pf_6_9 : zfld 6 9 = some (6, 0) ∧ 0 < zN 6 ∧ zfk 6 0 = 2 := by decide +kernel
theorem pf_6_15 : zfld 6 15 = some (6, 1) ∧ 1 < zN 6 ∧ zfk 6 1 = 2 := by decide +kernel
theorem pf_6_18 : zfld 6 18 = some (6, 2) ∧ 2 < zN 6 ∧ zfk 6 2 = 2 := by decide +kernel
theorem pf_6_21 : zfld 6 21 = some (6, 3) ∧ 3 < zN 6 ∧ zfk 6 3 = 2 := by decide +kernel
theorem pf_6_24 : zfld 6 24 = some (6, 4) ∧ 4 < zN 6 ∧ zfk 6 4 = 2 := by decide +kernel
theorem pf_6_27 : zfld 6 27 = some (6, 5) ∧ 5 < zN 6 ∧ zfk 6 5 = 2 := by decide +kernel
theorem pf_6_30 : zfld 6 30 = some (6, 7) ∧ 7 < zN 6 ∧ zfk 6 7 = 2 := by decide +kernel
def c6 (a : Nat) (h : ZH) : Option ZH :=
  if Nat.blt a 1000000 = true then if zqn h = true then zat2 h.2.2.length (zmk h (0, 12)) fun r1 h2 => if zqr h2 a 6 r1 = true then zlet (zpr h2 a 0 r1) fun h3 => if zqn h3 = true then zat2 h3.2.2.length (zmk h3 (0, 12)) fun r4 h5 => if zqr h5 a 6 r4 = true then zlet (zpr h5 a 1 r4) fun h6 => if zqn h6 = true then zat2 h6.2.2.length (zmk h6 (0, 12)) fun r7 h8 => if zqr h8 a 6 r7 = true then zlet (zpr h8 a 2 r7) fun h9 => if zqn h9 = true then zat2 h9.2.2.length (zmk h9 (0, 12)) fun r10 h11 => if zqr h11 a 6 r10 = true then zlet (zpr h11 a 3 r10) fun h12 => if zqn h12 = true then zat2 h12.2.2.length (zmk h12 (0, 12)) fun r13 h14 => if zqr h14 a 6 r13 = true then zlet (zpr h14 a 4 r13) fun h15 => if zqn h15 = true then zat2 h15.2.2.length (zmk h15 (0, 12)) fun r16 h17 => if zqr h17 a 6 r16 = true then zlet (zpr h17 a 5 r16) fun h18 => if zqn h18 = true then zat2 h18.2.2.length (zmk h18 (0, 12)) fun r19 h20 => if zqr h20 a 6 r19 = true then zlet (zpr h20 a 7 r19) fun h21 => some h21 else none else none else none else none else none else none else none else none else none else none else none else none else none else none else none
theorem t6 {sc : ZS} {d a : Nat} {h : ZH} : zY sc (d + 0) 6 0 [.val (.ref a)] [] h (c6 a h) := by
  unfold c6
  refine zY_step (p := 1) (ls' := [.val (.ref a)]) (st' := [.ref a]) d_6_0 rfl ?_
  refine zY_obj (p := 4) d_6_1 ow_6c rc_6_3 rfl rfl ?_
  refine zY_step (p := 5) (ls' := [.val (.ref a)]) (st' := [.ref a]) d_6_4 rfl ?_
  refine zY_step (p := 7) (ls' := [.val (.ref a)]) (st' := [.int (12 : Int32), .ref a]) d_6_5 rfl ?_
  refine zY_arr (p := 9) (kd := 0) (n := 12) d_6_7 (fun _ _ _ _ _ _ => rfl) ⟨by decide, by decide, by decide⟩ rfl (fun r1 h2 => ?_)
  refine zY_pr (p := 12) d_6_9 ow_6c pf_6_9 (by decide +kernel) rfl (fun h3 => ?_)
  refine zY_step (p := 13) (ls' := [.val (.ref a)]) (st' := [.ref a]) d_6_12 rfl ?_
  refine zY_step (p := 15) (ls' := [.val (.ref a)]) (st' := [.int (12 : Int32), .ref a]) d_6_13 rfl ?_
  refine zY_arr (p := 17) (kd := 0) (n := 12) d_6_15 (fun _ _ _ _ _ _ => rfl) ⟨by decide, by decide, by decide⟩ rfl (fun r4 h5 => ?_)
  refine zY_pr (p := 20) d_6_17 ow_6c pf_6_15 (by decide +kernel) rfl (fun h6 => ?_)
  refine zY_step (p := 21) (ls' := [.val (.ref a)]) (st' := [.ref a]) d_6_20 rfl ?_
  refine zY_step (p := 23) (ls' := [.val (.ref a)]) (st' := [.int (12 : Int32), .ref a]) d_6_21 rfl ?_
  refine zY_arr (p := 25) (kd := 0) (n := 12) d_6_23 (fun _ _ _ _ _ _ => rfl) ⟨by decide, by decide, by decide⟩ rfl (fun r7 h8 => ?_)
  refine zY_pr (p := 28) d_6_25 ow_6c pf_6_18 (by decide +kernel) rfl (fun h9 => ?_)
  refine zY_step (p := 29) (ls' := [.val (.ref a)]) (st' := [.ref a]) d_6_28 rfl ?_
  refine zY_step (p := 31) (ls' := [.val (.ref a)]) (st' := [.int (12 : Int32), .ref a]) d_6_29 rfl ?_
  refine zY_arr (p := 33) (kd := 0) (n := 12) d_6_31 (fun _ _ _ _ _ _ => rfl) ⟨by decide, by decide, by decide⟩ rfl (fun r10 h11 => ?_)
  refine zY_pr (p := 36) d_6_33 ow_6c pf_6_21 (by decide +kernel) rfl (fun h12 => ?_)
  refine zY_step (p := 37) (ls' := [.val (.ref a)]) (st' := [.ref a]) d_6_36 rfl ?_
  refine zY_step (p := 39) (ls' := [.val (.ref a)]) (st' := [.int (12 : Int32), .ref a]) d_6_37 rfl ?_
  refine zY_arr (p := 41) (kd := 0) (n := 12) d_6_39 (fun _ _ _ _ _ _ => rfl) ⟨by decide, by decide, by decide⟩ rfl (fun r13 h14 => ?_)
  refine zY_pr (p := 44) d_6_41 ow_6c pf_6_24 (by decide +kernel) rfl (fun h15 => ?_)
  refine zY_step (p := 45) (ls' := [.val (.ref a)]) (st' := [.ref a]) d_6_44 rfl ?_
  refine zY_step (p := 47) (ls' := [.val (.ref a)]) (st' := [.int (12 : Int32), .ref a]) d_6_45 rfl ?_
  refine zY_arr (p := 49) (kd := 0) (n := 12) d_6_47 (fun _ _ _ _ _ _ => rfl) ⟨by decide, by decide, by decide⟩ rfl (fun r16 h17 => ?_)
  refine zY_pr (p := 52) d_6_49 ow_6c pf_6_27 (by decide +kernel) rfl (fun h18 => ?_)
  refine zY_step (p := 53) (ls' := [.val (.ref a)]) (st' := [.ref a]) d_6_52 rfl ?_
  refine zY_step (p := 55) (ls' := [.val (.ref a)]) (st' := [.int (12 : Int32), .ref a]) d_6_53 rfl ?_
  refine zY_arr (p := 57) (kd := 0) (n := 12) d_6_55 (fun _ _ _ _ _ _ => rfl) ⟨by decide, by decide, by decide⟩ rfl (fun r19 h20 => ?_)
  refine zY_pr (p := 60) d_6_57 ow_6c pf_6_30 (by decide +kernel) rfl (fun h21 => ?_)
  exact zY_ret d_6_60 rt_6c
theorem ow_7c : zown 7 = 7 := rfl
theorem kd_7 : zkind 7 = 2 := rfl
theorem rt_7c : zret 7 = none := rfl
theorem rc_7_1 : zres 7 1 = some 1003 := by decide +kernel
theorem nw_7_7 : znew 7 7 = some 5 ∧ 5 < zCL.length ∧ zN 5 = 4 := by decide +kernel
theorem rc_7_9 : zres 7 9 = some 5 := by decide +kernel
theorem pf_7_10 : zfld 7 10 = some (7, 0) ∧ 0 < zN 7 ∧ zfk 7 0 = 2 := by decide +kernel
def c7 (a : Nat) (h : ZH) : Option ZH :=
  if Nat.blt a 1000000 = true then if zqn h = true then zat2 h.2.2.length (zmk h (8, 4)) fun r1 h2 => if Nat.blt r1 1000000 = true then (c5 r1 h2).bind fun h3 => if zqr h3 a 7 r1 = true then zlet (zpr h3 a 0 r1) fun h4 => some h4 else none else none else none else none
theorem t7 {sc : ZS} {d a : Nat} {h : ZH} : zY sc (d + 1) 7 0 [.val (.ref a)] [] h (c7 a h) := by
  unfold c7
  refine zY_step (p := 1) (ls' := [.val (.ref a)]) (st' := [.ref a]) d_7_0 rfl ?_
  refine zY_obj (p := 4) d_7_1 ow_7c rc_7_1 rfl rfl ?_
  refine zY_step (p := 5) (ls' := [.val (.ref a)]) (st' := [.ref a]) d_7_4 rfl ?_
  refine zY_new (p := 8) d_7_5 ow_7c nw_7_7 rfl (fun r1 h2 => ?_)
  refine zY_step (p := 9) (ls' := [.val (.ref a)]) (st' := [.ref r1, .ref r1, .ref a]) d_7_8 rfl ?_
  refine zY_call (p := 12) (st := [.ref r1, .ref a]) d_7_9 ow_7c rc_7_9 kk_5 rfl (t5 (d := _)) rfl rfl rfl rfl (fun h3 => ?_)
  refine zY_pr (p := 15) d_7_12 ow_7c pf_7_10 (by decide +kernel) rfl (fun h4 => ?_)
  exact zY_ret d_7_15 rt_7c
theorem ow_8c : zown 8 = 8 := rfl
theorem kd_8 : zkind 8 = 2 := rfl
theorem rt_8c : zret 8 = none := rfl
theorem rc_8_3 : zres 8 3 = some 1003 := by decide +kernel
theorem pf_8_9 : zfld 8 9 = some (8, 0) ∧ 0 < zN 8 ∧ zfk 8 0 = 2 := by decide +kernel
theorem pf_8_15 : zfld 8 15 = some (8, 1) ∧ 1 < zN 8 ∧ zfk 8 1 = 2 := by decide +kernel
def c8 (a : Nat) (h : ZH) : Option ZH :=
  if Nat.blt a 1000000 = true then if zqn h = true then zat2 h.2.2.length (zmk h (0, 8)) fun r1 h2 => if zqr h2 a 8 r1 = true then zlet (zpr h2 a 0 r1) fun h3 => if zqn h3 = true then zat2 h3.2.2.length (zmk h3 (0, 8)) fun r4 h5 => if zqr h5 a 8 r4 = true then zlet (zpr h5 a 1 r4) fun h6 => some h6 else none else none else none else none else none
theorem t8 {sc : ZS} {d a : Nat} {h : ZH} : zY sc (d + 0) 8 0 [.val (.ref a)] [] h (c8 a h) := by
  unfold c8
  refine zY_step (p := 1) (ls' := [.val (.ref a)]) (st' := [.ref a]) d_8_0 rfl ?_
  refine zY_obj (p := 4) d_8_1 ow_8c rc_8_3 rfl rfl ?_
  refine zY_step (p := 5) (ls' := [.val (.ref a)]) (st' := [.ref a]) d_8_4 rfl ?_
  refine zY_step (p := 7) (ls' := [.val (.ref a)]) (st' := [.int (8 : Int32), .ref a]) d_8_5 rfl ?_
  refine zY_arr (p := 9) (kd := 0) (n := 8) d_8_7 (fun _ _ _ _ _ _ => rfl) ⟨by decide, by decide, by decide⟩ rfl (fun r1 h2 => ?_)
  refine zY_pr (p := 12) d_8_9 ow_8c pf_8_9 (by decide +kernel) rfl (fun h3 => ?_)
  refine zY_step (p := 13) (ls' := [.val (.ref a)]) (st' := [.ref a]) d_8_12 rfl ?_
  refine zY_step (p := 15) (ls' := [.val (.ref a)]) (st' := [.int (8 : Int32), .ref a]) d_8_13 rfl ?_
  refine zY_arr (p := 17) (kd := 0) (n := 8) d_8_15 (fun _ _ _ _ _ _ => rfl) ⟨by decide, by decide, by decide⟩ rfl (fun r4 h5 => ?_)
  refine zY_pr (p := 20) d_8_17 ow_8c pf_8_15 (by decide +kernel) rfl (fun h6 => ?_)
  exact zY_ret d_8_20 rt_8c
theorem ow_1c : zown 1 = 1 := rfl
theorem kd_1 : zkind 1 = 2 := rfl
theorem rt_1c : zret 1 = none := rfl
theorem rc_1_3 : zres 1 3 = some 1003 := by decide +kernel
theorem nw_1_9 : znew 1 9 = some 2 ∧ 2 < zCL.length ∧ zN 2 = 11 := by decide +kernel
theorem rc_1_11 : zres 1 11 = some 2 := by decide +kernel
theorem pf_1_12 : zfld 1 12 = some (1, 0) ∧ 0 < zN 1 ∧ zfk 1 0 = 2 := by decide +kernel
theorem nw_1_18 : znew 1 18 = some 3 ∧ 3 < zCL.length ∧ zN 3 = 4 := by decide +kernel
theorem rc_1_20 : zres 1 20 = some 3 := by decide +kernel
theorem pf_1_21 : zfld 1 21 = some (1, 1) ∧ 1 < zN 1 ∧ zfk 1 1 = 2 := by decide +kernel
theorem nw_1_25 : znew 1 25 = some 4 ∧ 4 < zCL.length ∧ zN 4 = 6 := by decide +kernel
theorem rc_1_27 : zres 1 27 = some 4 := by decide +kernel
theorem pf_1_28 : zfld 1 28 = some (1, 2) ∧ 2 < zN 1 ∧ zfk 1 2 = 2 := by decide +kernel
theorem nw_1_32 : znew 1 32 = some 6 ∧ 6 < zCL.length ∧ zN 6 = 10 := by decide +kernel
theorem rc_1_34 : zres 1 34 = some 6 := by decide +kernel
theorem pf_1_35 : zfld 1 35 = some (1, 3) ∧ 3 < zN 1 ∧ zfk 1 3 = 2 := by decide +kernel
theorem nw_1_39 : znew 1 39 = some 7 ∧ 7 < zCL.length ∧ zN 7 = 2 := by decide +kernel
theorem rc_1_41 : zres 1 41 = some 7 := by decide +kernel
theorem pf_1_42 : zfld 1 42 = some (1, 4) ∧ 4 < zN 1 ∧ zfk 1 4 = 2 := by decide +kernel
theorem nw_1_46 : znew 1 46 = some 8 ∧ 8 < zCL.length ∧ zN 8 = 3 := by decide +kernel
theorem rc_1_48 : zres 1 48 = some 8 := by decide +kernel
theorem pf_1_49 : zfld 1 49 = some (1, 5) ∧ 5 < zN 1 ∧ zfk 1 5 = 2 := by decide +kernel
theorem pf_1_53 : zfld 1 53 = some (1, 6) ∧ 6 < zN 1 ∧ zfk 1 6 = 2 := by decide +kernel
theorem pf_1_57 : zfld 1 57 = some (1, 7) ∧ 7 < zN 1 ∧ zfk 1 7 = 2 := by decide +kernel
theorem pf_1_60 : zfld 1 60 = some (1, 8) ∧ 8 < zN 1 ∧ zfk 1 8 = 2 := by decide +kernel
theorem pf_1_63 : zfld 1 63 = some (1, 9) ∧ 9 < zN 1 ∧ zfk 1 9 = 2 := by decide +kernel
theorem pf_1_66 : zfld 1 66 = some (1, 10) ∧ 10 < zN 1 ∧ zfk 1 10 = 2 := by decide +kernel
theorem pg_1_69_2 : zfld 1 69 = some (1, 12) ∧ 12 < zN 1 ∧ (zfk 1 12 = 0 ∨ (zfk 1 12 = 1 ∨ zfk 1 12 = 3) ∧ ((2 : Int32) = 0 ∨ (2 : Int32) = 1)) := by decide +kernel
theorem pg_1_73_12 : zfld 1 73 = some (1, 13) ∧ 13 < zN 1 ∧ (zfk 1 13 = 0 ∨ (zfk 1 13 = 1 ∨ zfk 1 13 = 3) ∧ ((12 : Int32) = 0 ∨ (12 : Int32) = 1)) := by decide +kernel
def c1 (a : Nat) (h : ZH) : Option ZH :=
  if Nat.blt a 1000000 = true then if zqn h = true then zat2 h.2.2.length (zmk h (5, 11)) fun r1 h2 => if Nat.blt r1 1000000 = true then (c2 r1 h2).bind fun h3 => if zqr h3 a 1 r1 = true then zlet (zpr h3 a 0 r1) fun h4 => if zqn h4 = true then zat2 h4.2.2.length (zmk h4 (6, 4)) fun r5 h6 => if Nat.blt r5 1000000 = true then (c3 r5 h6).bind fun h7 => if zqr h7 a 1 r5 = true then zlet (zpr h7 a 1 r5) fun h8 => if zqn h8 = true then zat2 h8.2.2.length (zmk h8 (7, 6)) fun r9 h10 => if Nat.blt r9 1000000 = true then (c4 r9 h10).bind fun h11 => if zqr h11 a 1 r9 = true then zlet (zpr h11 a 2 r9) fun h12 => if zqn h12 = true then zat2 h12.2.2.length (zmk h12 (9, 10)) fun r13 h14 => if Nat.blt r13 1000000 = true then (c6 r13 h14).bind fun h15 => if zqr h15 a 1 r13 = true then zlet (zpr h15 a 3 r13) fun h16 => if zqn h16 = true then zat2 h16.2.2.length (zmk h16 (10, 2)) fun r17 h18 => if Nat.blt r17 1000000 = true then (c7 r17 h18).bind fun h19 => if zqr h19 a 1 r17 = true then zlet (zpr h19 a 4 r17) fun h20 => if zqn h20 = true then zat2 h20.2.2.length (zmk h20 (11, 3)) fun r21 h22 => if Nat.blt r21 1000000 = true then (c8 r21 h22).bind fun h23 => if zqr h23 a 1 r21 = true then zlet (zpr h23 a 5 r21) fun h24 => if zqn h24 = true then zat2 h24.2.2.length (zmk h24 (0, 10)) fun r25 h26 => if zqr h26 a 1 r25 = true then zlet (zpr h26 a 6 r25) fun h27 => if zqn h27 = true then zat2 h27.2.2.length (zmk h27 (0, 10)) fun r28 h29 => if zqr h29 a 1 r28 = true then zlet (zpr h29 a 7 r28) fun h30 => if zqn h30 = true then zat2 h30.2.2.length (zmk h30 (0, 10)) fun r31 h32 => if zqr h32 a 1 r31 = true then zlet (zpr h32 a 8 r31) fun h33 => if zqn h33 = true then zat2 h33.2.2.length (zmk h33 (0, 10)) fun r34 h35 => if zqr h35 a 1 r34 = true then zlet (zpr h35 a 9 r34) fun h36 => if zqn h36 = true then zat2 h36.2.2.length (zmk h36 (0, 9)) fun r37 h38 => if zqr h38 a 1 r37 = true then zlet (zpr h38 a 10 r37) fun h39 => if zqo h39 a 1 = true then zlet (zpi h39 a 12 (2 : Int32)) fun h40 => if zqo h40 a 1 = true then zlet (zpi h40 a 13 (12 : Int32)) fun h41 => some h41 else none else none else none else none else none else none else none else none else none else none else none else none else none else none else none else none else none else none else none else none else none else none else none else none else none else none else none else none else none else none else none
theorem t1 {sc : ZS} {d a : Nat} {h : ZH} : zY sc (d + 2) 1 0 [.val (.ref a)] [] h (c1 a h) := by
  unfold c1
  refine zY_step (p := 1) (ls' := [.val (.ref a)]) (st' := [.ref a]) d_1_0 rfl ?_
  refine zY_obj (p := 4) d_1_1 ow_1c rc_1_3 rfl rfl ?_
  refine zY_step (p := 5) (ls' := [.val (.ref a)]) (st' := [.ref a]) d_1_4 rfl ?_
  refine zY_new (p := 8) d_1_5 ow_1c nw_1_9 rfl (fun r1 h2 => ?_)
  refine zY_step (p := 9) (ls' := [.val (.ref a)]) (st' := [.ref r1, .ref r1, .ref a]) d_1_8 rfl ?_
  refine zY_call (p := 12) (st := [.ref r1, .ref a]) d_1_9 ow_1c rc_1_11 kk_2 rfl (t2 (d := _)) rfl rfl rfl rfl (fun h3 => ?_)
  refine zY_pr (p := 15) d_1_12 ow_1c pf_1_12 (by decide +kernel) rfl (fun h4 => ?_)
  refine zY_step (p := 16) (ls' := [.val (.ref a)]) (st' := [.ref a]) d_1_15 rfl ?_
  refine zY_new (p := 19) d_1_16 ow_1c nw_1_18 rfl (fun r5 h6 => ?_)
  refine zY_step (p := 20) (ls' := [.val (.ref a)]) (st' := [.ref r5, .ref r5, .ref a]) d_1_19 rfl ?_
  refine zY_call (p := 23) (st := [.ref r5, .ref a]) d_1_20 ow_1c rc_1_20 kk_3 rfl (t3 (d := _)) rfl rfl rfl rfl (fun h7 => ?_)
  refine zY_pr (p := 26) d_1_23 ow_1c pf_1_21 (by decide +kernel) rfl (fun h8 => ?_)
  refine zY_step (p := 27) (ls' := [.val (.ref a)]) (st' := [.ref a]) d_1_26 rfl ?_
  refine zY_new (p := 30) d_1_27 ow_1c nw_1_25 rfl (fun r9 h10 => ?_)
  refine zY_step (p := 31) (ls' := [.val (.ref a)]) (st' := [.ref r9, .ref r9, .ref a]) d_1_30 rfl ?_
  refine zY_call (p := 34) (st := [.ref r9, .ref a]) d_1_31 ow_1c rc_1_27 kk_4 rfl (t4 (d := _)) rfl rfl rfl rfl (fun h11 => ?_)
  refine zY_pr (p := 37) d_1_34 ow_1c pf_1_28 (by decide +kernel) rfl (fun h12 => ?_)
  refine zY_step (p := 38) (ls' := [.val (.ref a)]) (st' := [.ref a]) d_1_37 rfl ?_
  refine zY_new (p := 41) d_1_38 ow_1c nw_1_32 rfl (fun r13 h14 => ?_)
  refine zY_step (p := 42) (ls' := [.val (.ref a)]) (st' := [.ref r13, .ref r13, .ref a]) d_1_41 rfl ?_
  refine zY_call (p := 45) (st := [.ref r13, .ref a]) d_1_42 ow_1c rc_1_34 kk_6 rfl (t6 (d := _)) rfl rfl rfl rfl (fun h15 => ?_)
  refine zY_pr (p := 48) d_1_45 ow_1c pf_1_35 (by decide +kernel) rfl (fun h16 => ?_)
  refine zY_step (p := 49) (ls' := [.val (.ref a)]) (st' := [.ref a]) d_1_48 rfl ?_
  refine zY_new (p := 52) d_1_49 ow_1c nw_1_39 rfl (fun r17 h18 => ?_)
  refine zY_step (p := 53) (ls' := [.val (.ref a)]) (st' := [.ref r17, .ref r17, .ref a]) d_1_52 rfl ?_
  refine zY_call (p := 56) (st := [.ref r17, .ref a]) d_1_53 ow_1c rc_1_41 kk_7 rfl (t7 (d := _)) rfl rfl rfl rfl (fun h19 => ?_)
  refine zY_pr (p := 59) d_1_56 ow_1c pf_1_42 (by decide +kernel) rfl (fun h20 => ?_)
  refine zY_step (p := 60) (ls' := [.val (.ref a)]) (st' := [.ref a]) d_1_59 rfl ?_
  refine zY_new (p := 63) d_1_60 ow_1c nw_1_46 rfl (fun r21 h22 => ?_)
  refine zY_step (p := 64) (ls' := [.val (.ref a)]) (st' := [.ref r21, .ref r21, .ref a]) d_1_63 rfl ?_
  refine zY_call (p := 67) (st := [.ref r21, .ref a]) d_1_64 ow_1c rc_1_48 kk_8 rfl (t8 (d := _)) rfl rfl rfl rfl (fun h23 => ?_)
  refine zY_pr (p := 70) d_1_67 ow_1c pf_1_49 (by decide +kernel) rfl (fun h24 => ?_)
  refine zY_step (p := 71) (ls' := [.val (.ref a)]) (st' := [.ref a]) d_1_70 rfl ?_
  refine zY_step (p := 73) (ls' := [.val (.ref a)]) (st' := [.int (10 : Int32), .ref a]) d_1_71 rfl ?_
  refine zY_arr (p := 75) (kd := 0) (n := 10) d_1_73 (fun _ _ _ _ _ _ => rfl) ⟨by decide, by decide, by decide⟩ rfl (fun r25 h26 => ?_)
  refine zY_pr (p := 78) d_1_75 ow_1c pf_1_53 (by decide +kernel) rfl (fun h27 => ?_)
  refine zY_step (p := 79) (ls' := [.val (.ref a)]) (st' := [.ref a]) d_1_78 rfl ?_
  refine zY_step (p := 81) (ls' := [.val (.ref a)]) (st' := [.int (10 : Int32), .ref a]) d_1_79 rfl ?_
  refine zY_arr (p := 83) (kd := 0) (n := 10) d_1_81 (fun _ _ _ _ _ _ => rfl) ⟨by decide, by decide, by decide⟩ rfl (fun r28 h29 => ?_)
  refine zY_pr (p := 86) d_1_83 ow_1c pf_1_57 (by decide +kernel) rfl (fun h30 => ?_)
  refine zY_step (p := 87) (ls' := [.val (.ref a)]) (st' := [.ref a]) d_1_86 rfl ?_
  refine zY_step (p := 89) (ls' := [.val (.ref a)]) (st' := [.int (10 : Int32), .ref a]) d_1_87 rfl ?_
  refine zY_arr (p := 91) (kd := 0) (n := 10) d_1_89 (fun _ _ _ _ _ _ => rfl) ⟨by decide, by decide, by decide⟩ rfl (fun r31 h32 => ?_)
  refine zY_pr (p := 94) d_1_91 ow_1c pf_1_60 (by decide +kernel) rfl (fun h33 => ?_)
  refine zY_step (p := 95) (ls' := [.val (.ref a)]) (st' := [.ref a]) d_1_94 rfl ?_
  refine zY_step (p := 97) (ls' := [.val (.ref a)]) (st' := [.int (10 : Int32), .ref a]) d_1_95 rfl ?_
  refine zY_arr (p := 99) (kd := 0) (n := 10) d_1_97 (fun _ _ _ _ _ _ => rfl) ⟨by decide, by decide, by decide⟩ rfl (fun r34 h35 => ?_)
  refine zY_pr (p := 102) d_1_99 ow_1c pf_1_63 (by decide +kernel) rfl (fun h36 => ?_)
  refine zY_step (p := 103) (ls' := [.val (.ref a)]) (st' := [.ref a]) d_1_102 rfl ?_
  refine zY_step (p := 105) (ls' := [.val (.ref a)]) (st' := [.int (9 : Int32), .ref a]) d_1_103 rfl ?_
  refine zY_arr (p := 107) (kd := 0) (n := 9) d_1_105 (fun _ _ _ _ _ _ => rfl) ⟨by decide, by decide, by decide⟩ rfl (fun r37 h38 => ?_)
  refine zY_pr (p := 110) d_1_107 ow_1c pf_1_66 (by decide +kernel) rfl (fun h39 => ?_)
  refine zY_step (p := 111) (ls' := [.val (.ref a)]) (st' := [.ref a]) d_1_110 rfl ?_
  refine zY_step (p := 112) (ls' := [.val (.ref a)]) (st' := [.int (2 : Int32), .ref a]) d_1_111 rfl ?_
  refine zY_pi (p := 115) d_1_112 ow_1c pg_1_69_2 (by decide +kernel) rfl (fun h40 => ?_)
  refine zY_step (p := 116) (ls' := [.val (.ref a)]) (st' := [.ref a]) d_1_115 rfl ?_
  refine zY_step (p := 118) (ls' := [.val (.ref a)]) (st' := [.int (12 : Int32), .ref a]) d_1_116 rfl ?_
  refine zY_pi (p := 121) d_1_118 ow_1c pg_1_73_12 (by decide +kernel) rfl (fun h41 => ?_)
  exact zY_ret d_1_121 rt_1c
theorem ow_9c : zown 9 = 9 := rfl
theorem kd_9 : zkind 9 = 2 := rfl
theorem rt_9c : zret 9 = none := rfl
theorem rc_9_3 : zres 9 3 = some 1003 := by decide +kernel
theorem pf_9_9 : zfld 9 9 = some (9, 0) ∧ 0 < zN 9 ∧ zfk 9 0 = 2 := by decide +kernel
theorem pf_9_15 : zfld 9 15 = some (9, 2) ∧ 2 < zN 9 ∧ zfk 9 2 = 2 := by decide +kernel
theorem pf_9_18 : zfld 9 18 = some (9, 3) ∧ 3 < zN 9 ∧ zfk 9 3 = 2 := by decide +kernel
theorem pf_9_21 : zfld 9 21 = some (9, 4) ∧ 4 < zN 9 ∧ zfk 9 4 = 2 := by decide +kernel
theorem pg_9_24_m1 : zfld 9 24 = some (9, 11) ∧ 11 < zN 9 ∧ (zfk 9 11 = 0 ∨ (zfk 9 11 = 1 ∨ zfk 9 11 = 3) ∧ ((-1 : Int32) = 0 ∨ (-1 : Int32) = 1)) := by decide +kernel
theorem nw_9_28 : znew 9 28 = some 4 ∧ 4 < zCL.length ∧ zN 4 = 6 := by decide +kernel
theorem rc_9_30 : zres 9 30 = some 4 := by decide +kernel
theorem pf_9_31 : zfld 9 31 = some (9, 12) ∧ 12 < zN 9 ∧ zfk 9 12 = 2 := by decide +kernel
theorem pf_9_35 : zfld 9 35 = some (9, 13) ∧ 13 < zN 9 ∧ zfk 9 13 = 2 := by decide +kernel
theorem nw_9_38 : znew 9 38 = some 6 ∧ 6 < zCL.length ∧ zN 6 = 10 := by decide +kernel
theorem rc_9_40 : zres 9 40 = some 6 := by decide +kernel
theorem pf_9_41 : zfld 9 41 = some (9, 14) ∧ 14 < zN 9 ∧ zfk 9 14 = 2 := by decide +kernel
theorem nw_9_45 : znew 9 45 = some 7 ∧ 7 < zCL.length ∧ zN 7 = 2 := by decide +kernel
theorem rc_9_47 : zres 9 47 = some 7 := by decide +kernel
theorem pf_9_48 : zfld 9 48 = some (9, 15) ∧ 15 < zN 9 ∧ zfk 9 15 = 2 := by decide +kernel
def c9 (a : Nat) (h : ZH) : Option ZH :=
  if Nat.blt a 1000000 = true then if zqn h = true then zat2 h.2.2.length (zmk h (0, 400)) fun r1 h2 => if zqr h2 a 9 r1 = true then zlet (zpr h2 a 0 r1) fun h3 => if zqn h3 = true then zat2 h3.2.2.length (zmk h3 (0, 401)) fun r4 h5 => if zqr h5 a 9 r4 = true then zlet (zpr h5 a 2 r4) fun h6 => if zqn h6 = true then zat2 h6.2.2.length (zmk h6 (0, 401)) fun r7 h8 => if zqr h8 a 9 r7 = true then zlet (zpr h8 a 3 r7) fun h9 => if zqn h9 = true then zat2 h9.2.2.length (zmk h9 (0, 401)) fun r10 h11 => if zqr h11 a 9 r10 = true then zlet (zpr h11 a 4 r10) fun h12 => if zqo h12 a 9 = true then zlet (zpi h12 a 11 (-1 : Int32)) fun h13 => if zqn h13 = true then zat2 h13.2.2.length (zmk h13 (7, 6)) fun r14 h15 => if Nat.blt r14 1000000 = true then (c4 r14 h15).bind fun h16 => if zqr h16 a 9 r14 = true then zlet (zpr h16 a 12 r14) fun h17 => if zqn h17 = true then zat2 h17.2.2.length (zmk h17 (0, 10)) fun r18 h19 => if zqr h19 a 9 r18 = true then zlet (zpr h19 a 13 r18) fun h20 => if zqn h20 = true then zat2 h20.2.2.length (zmk h20 (9, 10)) fun r21 h22 => if Nat.blt r21 1000000 = true then (c6 r21 h22).bind fun h23 => if zqr h23 a 9 r21 = true then zlet (zpr h23 a 14 r21) fun h24 => if zqn h24 = true then zat2 h24.2.2.length (zmk h24 (10, 2)) fun r25 h26 => if Nat.blt r25 1000000 = true then (c7 r25 h26).bind fun h27 => if zqr h27 a 9 r25 = true then zlet (zpr h27 a 15 r25) fun h28 => some h28 else none else none else none else none else none else none else none else none else none else none else none else none else none else none else none else none else none else none else none else none else none
theorem t9 {sc : ZS} {d a : Nat} {h : ZH} : zY sc (d + 2) 9 0 [.val (.ref a)] [] h (c9 a h) := by
  unfold c9
  refine zY_step (p := 1) (ls' := [.val (.ref a)]) (st' := [.ref a]) d_9_0 rfl ?_
  refine zY_obj (p := 4) d_9_1 ow_9c rc_9_3 rfl rfl ?_
  refine zY_step (p := 5) (ls' := [.val (.ref a)]) (st' := [.ref a]) d_9_4 rfl ?_
  refine zY_step (p := 8) (ls' := [.val (.ref a)]) (st' := [.int (400 : Int32), .ref a]) d_9_5 rfl ?_
  refine zY_arr (p := 10) (kd := 0) (n := 400) d_9_8 (fun _ _ _ _ _ _ => rfl) ⟨by decide, by decide, by decide⟩ rfl (fun r1 h2 => ?_)
  refine zY_pr (p := 13) d_9_10 ow_9c pf_9_9 (by decide +kernel) rfl (fun h3 => ?_)
  refine zY_step (p := 14) (ls' := [.val (.ref a)]) (st' := [.ref a]) d_9_13 rfl ?_
  refine zY_step (p := 17) (ls' := [.val (.ref a)]) (st' := [.int (401 : Int32), .ref a]) d_9_14 rfl ?_
  refine zY_arr (p := 19) (kd := 0) (n := 401) d_9_17 (fun _ _ _ _ _ _ => rfl) ⟨by decide, by decide, by decide⟩ rfl (fun r4 h5 => ?_)
  refine zY_pr (p := 22) d_9_19 ow_9c pf_9_15 (by decide +kernel) rfl (fun h6 => ?_)
  refine zY_step (p := 23) (ls' := [.val (.ref a)]) (st' := [.ref a]) d_9_22 rfl ?_
  refine zY_step (p := 26) (ls' := [.val (.ref a)]) (st' := [.int (401 : Int32), .ref a]) d_9_23 rfl ?_
  refine zY_arr (p := 28) (kd := 0) (n := 401) d_9_26 (fun _ _ _ _ _ _ => rfl) ⟨by decide, by decide, by decide⟩ rfl (fun r7 h8 => ?_)
  refine zY_pr (p := 31) d_9_28 ow_9c pf_9_18 (by decide +kernel) rfl (fun h9 => ?_)
  refine zY_step (p := 32) (ls' := [.val (.ref a)]) (st' := [.ref a]) d_9_31 rfl ?_
  refine zY_step (p := 35) (ls' := [.val (.ref a)]) (st' := [.int (401 : Int32), .ref a]) d_9_32 rfl ?_
  refine zY_arr (p := 37) (kd := 0) (n := 401) d_9_35 (fun _ _ _ _ _ _ => rfl) ⟨by decide, by decide, by decide⟩ rfl (fun r10 h11 => ?_)
  refine zY_pr (p := 40) d_9_37 ow_9c pf_9_21 (by decide +kernel) rfl (fun h12 => ?_)
  refine zY_step (p := 41) (ls' := [.val (.ref a)]) (st' := [.ref a]) d_9_40 rfl ?_
  refine zY_step (p := 42) (ls' := [.val (.ref a)]) (st' := [.int (-1 : Int32), .ref a]) d_9_41 rfl ?_
  refine zY_pi (p := 45) d_9_42 ow_9c pg_9_24_m1 (by decide +kernel) rfl (fun h13 => ?_)
  refine zY_step (p := 46) (ls' := [.val (.ref a)]) (st' := [.ref a]) d_9_45 rfl ?_
  refine zY_new (p := 49) d_9_46 ow_9c nw_9_28 rfl (fun r14 h15 => ?_)
  refine zY_step (p := 50) (ls' := [.val (.ref a)]) (st' := [.ref r14, .ref r14, .ref a]) d_9_49 rfl ?_
  refine zY_call (p := 53) (st := [.ref r14, .ref a]) d_9_50 ow_9c rc_9_30 kk_4 rfl (t4 (d := _)) rfl rfl rfl rfl (fun h16 => ?_)
  refine zY_pr (p := 56) d_9_53 ow_9c pf_9_31 (by decide +kernel) rfl (fun h17 => ?_)
  refine zY_step (p := 57) (ls' := [.val (.ref a)]) (st' := [.ref a]) d_9_56 rfl ?_
  refine zY_step (p := 59) (ls' := [.val (.ref a)]) (st' := [.int (10 : Int32), .ref a]) d_9_57 rfl ?_
  refine zY_arr (p := 61) (kd := 0) (n := 10) d_9_59 (fun _ _ _ _ _ _ => rfl) ⟨by decide, by decide, by decide⟩ rfl (fun r18 h19 => ?_)
  refine zY_pr (p := 64) d_9_61 ow_9c pf_9_35 (by decide +kernel) rfl (fun h20 => ?_)
  refine zY_step (p := 65) (ls' := [.val (.ref a)]) (st' := [.ref a]) d_9_64 rfl ?_
  refine zY_new (p := 68) d_9_65 ow_9c nw_9_38 rfl (fun r21 h22 => ?_)
  refine zY_step (p := 69) (ls' := [.val (.ref a)]) (st' := [.ref r21, .ref r21, .ref a]) d_9_68 rfl ?_
  refine zY_call (p := 72) (st := [.ref r21, .ref a]) d_9_69 ow_9c rc_9_40 kk_6 rfl (t6 (d := _)) rfl rfl rfl rfl (fun h23 => ?_)
  refine zY_pr (p := 75) d_9_72 ow_9c pf_9_41 (by decide +kernel) rfl (fun h24 => ?_)
  refine zY_step (p := 76) (ls' := [.val (.ref a)]) (st' := [.ref a]) d_9_75 rfl ?_
  refine zY_new (p := 79) d_9_76 ow_9c nw_9_45 rfl (fun r25 h26 => ?_)
  refine zY_step (p := 80) (ls' := [.val (.ref a)]) (st' := [.ref r25, .ref r25, .ref a]) d_9_79 rfl ?_
  refine zY_call (p := 83) (st := [.ref r25, .ref a]) d_9_80 ow_9c rc_9_47 kk_7 rfl (t7 (d := _)) rfl rfl rfl rfl (fun h27 => ?_)
  refine zY_pr (p := 86) d_9_83 ow_9c pf_9_48 (by decide +kernel) rfl (fun h28 => ?_)
  exact zY_ret d_9_86 rt_9c
theorem ow_0c : zown 0 = 0 := rfl
theorem kd_0 : zkind 0 = 2 := rfl
theorem rt_0c : zret 0 = none := rfl
theorem rc_0_1 : zres 0 1 = some 1003 := by decide +kernel
theorem nw_0_7 : znew 0 7 = some 1 ∧ 1 < zCL.length ∧ zN 1 = 16 := by decide +kernel
theorem rc_0_9 : zres 0 9 = some 1 := by decide +kernel
theorem pf_0_10 : zfld 0 10 = some (0, 0) ∧ 0 < zN 0 ∧ zfk 0 0 = 2 := by decide +kernel
theorem pf_0_16 : zfld 0 16 = some (0, 1) ∧ 1 < zN 0 ∧ zfk 0 1 = 2 := by decide +kernel
theorem pg_0_19_0 : zfld 0 19 = some (0, 2) ∧ 2 < zN 0 ∧ (zfk 0 2 = 0 ∨ (zfk 0 2 = 1 ∨ zfk 0 2 = 3) ∧ ((0 : Int32) = 0 ∨ (0 : Int32) = 1)) := by decide +kernel
theorem pf_0_25 : zfld 0 25 = some (0, 3) ∧ 3 < zN 0 ∧ zfk 0 3 = 2 := by decide +kernel
theorem nw_0_23 : znew 0 23 = some 2 ∧ 2 < zCL.length ∧ zN 2 = 11 := by decide +kernel
theorem rc_0_29 : zres 0 29 = some 2 := by decide +kernel
theorem pg_0_30_0 : zfld 0 30 = some (0, 4) ∧ 4 < zN 0 ∧ (zfk 0 4 = 0 ∨ (zfk 0 4 = 1 ∨ zfk 0 4 = 3) ∧ ((0 : Int32) = 0 ∨ (0 : Int32) = 1)) := by decide +kernel
theorem pg_0_34_0 : zfld 0 34 = some (0, 5) ∧ 5 < zN 0 ∧ (zfk 0 5 = 0 ∨ (zfk 0 5 = 1 ∨ zfk 0 5 = 3) ∧ ((0 : Int32) = 0 ∨ (0 : Int32) = 1)) := by decide +kernel
theorem pf_0_37 : zfld 0 37 = some (0, 6) ∧ 6 < zN 0 ∧ zfk 0 6 = 2 := by decide +kernel
theorem nw_0_41 : znew 0 41 = some 9 ∧ 9 < zCL.length ∧ zN 9 = 16 := by decide +kernel
theorem rc_0_43 : zres 0 43 = some 9 := by decide +kernel
theorem pf_0_44 : zfld 0 44 = some (0, 7) ∧ 7 < zN 0 ∧ zfk 0 7 = 2 := by decide +kernel
theorem pf_0_48 : zfld 0 48 = some (0, 8) ∧ 8 < zN 0 ∧ zfk 0 8 = 2 := by decide +kernel
def c0 (a : Nat) (h : ZH) : Option ZH :=
  if Nat.blt a 1000000 = true then if zqn h = true then zat2 h.2.2.length (zmk h (4, 16)) fun r1 h2 => if Nat.blt r1 1000000 = true then (c1 r1 h2).bind fun h3 => if zqr h3 a 0 r1 = true then zlet (zpr h3 a 0 r1) fun h4 => if zqn h4 = true then zat2 h4.2.2.length (zmk h4 (4, 16)) fun r5 h6 => if Nat.blt r5 1000000 = true then (c1 r5 h6).bind fun h7 => if zqr h7 a 0 r5 = true then zlet (zpr h7 a 1 r5) fun h8 => if zqo h8 a 0 = true then zlet (zpi h8 a 2 (0 : Int32)) fun h9 => if zqn h9 = true then zat2 h9.2.2.length (zmk h9 (2, 6)) fun r10 h11 => if zqr h11 a 0 r10 = true then zlet (zpr h11 a 3 r10) fun h12 => if zqf h12 a 0 3 r10 = true then if zqn h12 = true then zat2 h12.2.2.length (zmk h12 (5, 11)) fun r13 h14 => if Nat.blt r13 1000000 = true then (c2 r13 h14).bind fun h15 => if zqa h15 r10 r13 0 = true then zlet (zpr h15 r10 0 r13) fun h16 => if zqf h16 a 0 3 r10 = true then if zqn h16 = true then zat2 h16.2.2.length (zmk h16 (5, 11)) fun r17 h18 => if Nat.blt r17 1000000 = true then (c2 r17 h18).bind fun h19 => if zqa h19 r10 r17 1 = true then zlet (zpr h19 r10 1 r17) fun h20 => if zqf h20 a 0 3 r10 = true then if zqn h20 = true then zat2 h20.2.2.length (zmk h20 (5, 11)) fun r21 h22 => if Nat.blt r21 1000000 = true then (c2 r21 h22).bind fun h23 => if zqa h23 r10 r21 2 = true then zlet (zpr h23 r10 2 r21) fun h24 => if zqf h24 a 0 3 r10 = true then if zqn h24 = true then zat2 h24.2.2.length (zmk h24 (5, 11)) fun r25 h26 => if Nat.blt r25 1000000 = true then (c2 r25 h26).bind fun h27 => if zqa h27 r10 r25 3 = true then zlet (zpr h27 r10 3 r25) fun h28 => if zqf h28 a 0 3 r10 = true then if zqn h28 = true then zat2 h28.2.2.length (zmk h28 (5, 11)) fun r29 h30 => if Nat.blt r29 1000000 = true then (c2 r29 h30).bind fun h31 => if zqa h31 r10 r29 4 = true then zlet (zpr h31 r10 4 r29) fun h32 => if zqf h32 a 0 3 r10 = true then if zqn h32 = true then zat2 h32.2.2.length (zmk h32 (5, 11)) fun r33 h34 => if Nat.blt r33 1000000 = true then (c2 r33 h34).bind fun h35 => if zqa h35 r10 r33 5 = true then zlet (zpr h35 r10 5 r33) fun h36 => if zqo h36 a 0 = true then zlet (zpi h36 a 4 (0 : Int32)) fun h37 => if zqo h37 a 0 = true then zlet (zpi h37 a 5 (0 : Int32)) fun h38 => if zqn h38 = true then zat2 h38.2.2.length (zmk h38 (5, 11)) fun r39 h40 => if Nat.blt r39 1000000 = true then (c2 r39 h40).bind fun h41 => if zqr h41 a 0 r39 = true then zlet (zpr h41 a 6 r39) fun h42 => if zqn h42 = true then zat2 h42.2.2.length (zmk h42 (12, 16)) fun r43 h44 => if Nat.blt r43 1000000 = true then (c9 r43 h44).bind fun h45 => if zqr h45 a 0 r43 = true then zlet (zpr h45 a 7 r43) fun h46 => if zqn h46 = true then zat2 h46.2.2.length (zmk h46 (1, 1024)) fun r47 h48 => if zqr h48 a 0 r47 = true then zlet (zpr h48 a 8 r47) fun h49 => some h49 else none else none else none else none else none else none else none else none else none else none else none else none else none else none else none else none else none else none else none else none else none else none else none else none else none else none else none else none else none else none else none else none else none else none else none else none else none else none else none else none else none else none else none else none
theorem t0 {sc : ZS} {d a : Nat} {h : ZH} : zY sc (d + 3) 0 0 [.val (.ref a), .unset] [] h (c0 a h) := by
  unfold c0
  refine zY_step (p := 1) (ls' := [.val (.ref a), .unset]) (st' := [.ref a]) d_0_0 rfl ?_
  refine zY_obj (p := 4) d_0_1 ow_0c rc_0_1 rfl rfl ?_
  refine zY_step (p := 5) (ls' := [.val (.ref a), .unset]) (st' := [.ref a]) d_0_4 rfl ?_
  refine zY_new (p := 8) d_0_5 ow_0c nw_0_7 rfl (fun r1 h2 => ?_)
  refine zY_step (p := 9) (ls' := [.val (.ref a), .unset]) (st' := [.ref r1, .ref r1, .ref a]) d_0_8 rfl ?_
  refine zY_call (p := 12) (st := [.ref r1, .ref a]) d_0_9 ow_0c rc_0_9 kk_1 rfl (t1 (d := _)) rfl rfl rfl rfl (fun h3 => ?_)
  refine zY_pr (p := 15) d_0_12 ow_0c pf_0_10 (by decide +kernel) rfl (fun h4 => ?_)
  refine zY_step (p := 16) (ls' := [.val (.ref a), .unset]) (st' := [.ref a]) d_0_15 rfl ?_
  refine zY_new (p := 19) d_0_16 ow_0c nw_0_7 rfl (fun r5 h6 => ?_)
  refine zY_step (p := 20) (ls' := [.val (.ref a), .unset]) (st' := [.ref r5, .ref r5, .ref a]) d_0_19 rfl ?_
  refine zY_call (p := 23) (st := [.ref r5, .ref a]) d_0_20 ow_0c rc_0_9 kk_1 rfl (t1 (d := _)) rfl rfl rfl rfl (fun h7 => ?_)
  refine zY_pr (p := 26) d_0_23 ow_0c pf_0_16 (by decide +kernel) rfl (fun h8 => ?_)
  refine zY_step (p := 27) (ls' := [.val (.ref a), .unset]) (st' := [.ref a]) d_0_26 rfl ?_
  refine zY_step (p := 28) (ls' := [.val (.ref a), .unset]) (st' := [.int (0 : Int32), .ref a]) d_0_27 rfl ?_
  refine zY_pi (p := 31) d_0_28 ow_0c pg_0_19_0 (by decide +kernel) rfl (fun h9 => ?_)
  refine zY_step (p := 32) (ls' := [.val (.ref a), .unset]) (st' := [.ref a]) d_0_31 rfl ?_
  refine zY_step (p := 34) (ls' := [.val (.ref a), .unset]) (st' := [.int (6 : Int32), .ref a]) d_0_32 rfl ?_
  refine zY_arr2 (p := 37) (n := 6) d_0_34 rfl ⟨by decide, by decide, by decide⟩ rfl (fun r10 h11 => ?_)
  refine zY_pr (p := 40) d_0_37 ow_0c pf_0_25 (by decide +kernel) rfl (fun h12 => ?_)
  refine zY_step (p := 41) (ls' := [.val (.ref a), .unset]) (st' := [.int (0 : Int32)]) d_0_40 rfl ?_
  refine zY_step (p := 42) (ls' := [.val (.ref a), .val (.int (0 : Int32))]) (st' := []) d_0_41 rfl ?_
  refine zY_step (p := 43) (ls' := [.val (.ref a), .val (.int (0 : Int32))]) (st' := [.int (0 : Int32)]) d_0_42 rfl ?_
  refine zY_step (p := 45) (ls' := [.val (.ref a), .val (.int (0 : Int32))]) (st' := [.int (6 : Int32), .int (0 : Int32)]) d_0_43 rfl ?_
  refine zY_step (p := 48) (ls' := [.val (.ref a), .val (.int (0 : Int32))]) (st' := []) d_0_45 rfl ?_
  refine zY_step (p := 49) (ls' := [.val (.ref a), .val (.int (0 : Int32))]) (st' := [.ref a]) d_0_48 rfl ?_
  refine zY_gr (p := 52) (r := r10) d_0_49 ow_0c pf_0_25 rfl ?_
  refine zY_step (p := 53) (ls' := [.val (.ref a), .val (.int (0 : Int32))]) (st' := [.int (0 : Int32), .ref r10]) d_0_52 rfl ?_
  refine zY_new (p := 56) d_0_53 ow_0c nw_0_23 rfl (fun r13 h14 => ?_)
  refine zY_step (p := 57) (ls' := [.val (.ref a), .val (.int (0 : Int32))]) (st' := [.ref r13, .ref r13, .int (0 : Int32), .ref r10]) d_0_56 rfl ?_
  refine zY_call (p := 60) (st := [.ref r13, .int (0 : Int32), .ref r10]) d_0_57 ow_0c rc_0_29 kk_2 rfl (t2 (d := _)) rfl rfl rfl rfl (fun h15 => ?_)
  refine zY_aas (p := 61) (n := 0) d_0_60 ⟨by decide, by decide⟩ rfl (fun h16 => ?_)
  refine zY_step (p := 64) (ls' := [.val (.ref a), .val (.int (1 : Int32))]) (st' := []) d_0_61 rfl ?_
  refine zY_step (p := 42) d_0_64 rfl ?_
  refine zY_step (p := 43) (ls' := [.val (.ref a), .val (.int (1 : Int32))]) (st' := [.int (1 : Int32)]) d_0_42 rfl ?_
  refine zY_step (p := 45) (ls' := [.val (.ref a), .val (.int (1 : Int32))]) (st' := [.int (6 : Int32), .int (1 : Int32)]) d_0_43 rfl ?_
  refine zY_step (p := 48) (ls' := [.val (.ref a), .val (.int (1 : Int32))]) (st' := []) d_0_45 rfl ?_
  refine zY_step (p := 49) (ls' := [.val (.ref a), .val (.int (1 : Int32))]) (st' := [.ref a]) d_0_48 rfl ?_
  refine zY_gr (p := 52) (r := r10) d_0_49 ow_0c pf_0_25 rfl ?_
  refine zY_step (p := 53) (ls' := [.val (.ref a), .val (.int (1 : Int32))]) (st' := [.int (1 : Int32), .ref r10]) d_0_52 rfl ?_
  refine zY_new (p := 56) d_0_53 ow_0c nw_0_23 rfl (fun r17 h18 => ?_)
  refine zY_step (p := 57) (ls' := [.val (.ref a), .val (.int (1 : Int32))]) (st' := [.ref r17, .ref r17, .int (1 : Int32), .ref r10]) d_0_56 rfl ?_
  refine zY_call (p := 60) (st := [.ref r17, .int (1 : Int32), .ref r10]) d_0_57 ow_0c rc_0_29 kk_2 rfl (t2 (d := _)) rfl rfl rfl rfl (fun h19 => ?_)
  refine zY_aas (p := 61) (n := 1) d_0_60 ⟨by decide, by decide⟩ rfl (fun h20 => ?_)
  refine zY_step (p := 64) (ls' := [.val (.ref a), .val (.int (2 : Int32))]) (st' := []) d_0_61 rfl ?_
  refine zY_step (p := 42) d_0_64 rfl ?_
  refine zY_step (p := 43) (ls' := [.val (.ref a), .val (.int (2 : Int32))]) (st' := [.int (2 : Int32)]) d_0_42 rfl ?_
  refine zY_step (p := 45) (ls' := [.val (.ref a), .val (.int (2 : Int32))]) (st' := [.int (6 : Int32), .int (2 : Int32)]) d_0_43 rfl ?_
  refine zY_step (p := 48) (ls' := [.val (.ref a), .val (.int (2 : Int32))]) (st' := []) d_0_45 rfl ?_
  refine zY_step (p := 49) (ls' := [.val (.ref a), .val (.int (2 : Int32))]) (st' := [.ref a]) d_0_48 rfl ?_
  refine zY_gr (p := 52) (r := r10) d_0_49 ow_0c pf_0_25 rfl ?_
  refine zY_step (p := 53) (ls' := [.val (.ref a), .val (.int (2 : Int32))]) (st' := [.int (2 : Int32), .ref r10]) d_0_52 rfl ?_
  refine zY_new (p := 56) d_0_53 ow_0c nw_0_23 rfl (fun r21 h22 => ?_)
  refine zY_step (p := 57) (ls' := [.val (.ref a), .val (.int (2 : Int32))]) (st' := [.ref r21, .ref r21, .int (2 : Int32), .ref r10]) d_0_56 rfl ?_
  refine zY_call (p := 60) (st := [.ref r21, .int (2 : Int32), .ref r10]) d_0_57 ow_0c rc_0_29 kk_2 rfl (t2 (d := _)) rfl rfl rfl rfl (fun h23 => ?_)
  refine zY_aas (p := 61) (n := 2) d_0_60 ⟨by decide, by decide⟩ rfl (fun h24 => ?_)
  refine zY_step (p := 64) (ls' := [.val (.ref a), .val (.int (3 : Int32))]) (st' := []) d_0_61 rfl ?_
  refine zY_step (p := 42) d_0_64 rfl ?_
  refine zY_step (p := 43) (ls' := [.val (.ref a), .val (.int (3 : Int32))]) (st' := [.int (3 : Int32)]) d_0_42 rfl ?_
  refine zY_step (p := 45) (ls' := [.val (.ref a), .val (.int (3 : Int32))]) (st' := [.int (6 : Int32), .int (3 : Int32)]) d_0_43 rfl ?_
  refine zY_step (p := 48) (ls' := [.val (.ref a), .val (.int (3 : Int32))]) (st' := []) d_0_45 rfl ?_
  refine zY_step (p := 49) (ls' := [.val (.ref a), .val (.int (3 : Int32))]) (st' := [.ref a]) d_0_48 rfl ?_
  refine zY_gr (p := 52) (r := r10) d_0_49 ow_0c pf_0_25 rfl ?_
  refine zY_step (p := 53) (ls' := [.val (.ref a), .val (.int (3 : Int32))]) (st' := [.int (3 : Int32), .ref r10]) d_0_52 rfl ?_
  refine zY_new (p := 56) d_0_53 ow_0c nw_0_23 rfl (fun r25 h26 => ?_)
  refine zY_step (p := 57) (ls' := [.val (.ref a), .val (.int (3 : Int32))]) (st' := [.ref r25, .ref r25, .int (3 : Int32), .ref r10]) d_0_56 rfl ?_
  refine zY_call (p := 60) (st := [.ref r25, .int (3 : Int32), .ref r10]) d_0_57 ow_0c rc_0_29 kk_2 rfl (t2 (d := _)) rfl rfl rfl rfl (fun h27 => ?_)
  refine zY_aas (p := 61) (n := 3) d_0_60 ⟨by decide, by decide⟩ rfl (fun h28 => ?_)
  refine zY_step (p := 64) (ls' := [.val (.ref a), .val (.int (4 : Int32))]) (st' := []) d_0_61 rfl ?_
  refine zY_step (p := 42) d_0_64 rfl ?_
  refine zY_step (p := 43) (ls' := [.val (.ref a), .val (.int (4 : Int32))]) (st' := [.int (4 : Int32)]) d_0_42 rfl ?_
  refine zY_step (p := 45) (ls' := [.val (.ref a), .val (.int (4 : Int32))]) (st' := [.int (6 : Int32), .int (4 : Int32)]) d_0_43 rfl ?_
  refine zY_step (p := 48) (ls' := [.val (.ref a), .val (.int (4 : Int32))]) (st' := []) d_0_45 rfl ?_
  refine zY_step (p := 49) (ls' := [.val (.ref a), .val (.int (4 : Int32))]) (st' := [.ref a]) d_0_48 rfl ?_
  refine zY_gr (p := 52) (r := r10) d_0_49 ow_0c pf_0_25 rfl ?_
  refine zY_step (p := 53) (ls' := [.val (.ref a), .val (.int (4 : Int32))]) (st' := [.int (4 : Int32), .ref r10]) d_0_52 rfl ?_
  refine zY_new (p := 56) d_0_53 ow_0c nw_0_23 rfl (fun r29 h30 => ?_)
  refine zY_step (p := 57) (ls' := [.val (.ref a), .val (.int (4 : Int32))]) (st' := [.ref r29, .ref r29, .int (4 : Int32), .ref r10]) d_0_56 rfl ?_
  refine zY_call (p := 60) (st := [.ref r29, .int (4 : Int32), .ref r10]) d_0_57 ow_0c rc_0_29 kk_2 rfl (t2 (d := _)) rfl rfl rfl rfl (fun h31 => ?_)
  refine zY_aas (p := 61) (n := 4) d_0_60 ⟨by decide, by decide⟩ rfl (fun h32 => ?_)
  refine zY_step (p := 64) (ls' := [.val (.ref a), .val (.int (5 : Int32))]) (st' := []) d_0_61 rfl ?_
  refine zY_step (p := 42) d_0_64 rfl ?_
  refine zY_step (p := 43) (ls' := [.val (.ref a), .val (.int (5 : Int32))]) (st' := [.int (5 : Int32)]) d_0_42 rfl ?_
  refine zY_step (p := 45) (ls' := [.val (.ref a), .val (.int (5 : Int32))]) (st' := [.int (6 : Int32), .int (5 : Int32)]) d_0_43 rfl ?_
  refine zY_step (p := 48) (ls' := [.val (.ref a), .val (.int (5 : Int32))]) (st' := []) d_0_45 rfl ?_
  refine zY_step (p := 49) (ls' := [.val (.ref a), .val (.int (5 : Int32))]) (st' := [.ref a]) d_0_48 rfl ?_
  refine zY_gr (p := 52) (r := r10) d_0_49 ow_0c pf_0_25 rfl ?_
  refine zY_step (p := 53) (ls' := [.val (.ref a), .val (.int (5 : Int32))]) (st' := [.int (5 : Int32), .ref r10]) d_0_52 rfl ?_
  refine zY_new (p := 56) d_0_53 ow_0c nw_0_23 rfl (fun r33 h34 => ?_)
  refine zY_step (p := 57) (ls' := [.val (.ref a), .val (.int (5 : Int32))]) (st' := [.ref r33, .ref r33, .int (5 : Int32), .ref r10]) d_0_56 rfl ?_
  refine zY_call (p := 60) (st := [.ref r33, .int (5 : Int32), .ref r10]) d_0_57 ow_0c rc_0_29 kk_2 rfl (t2 (d := _)) rfl rfl rfl rfl (fun h35 => ?_)
  refine zY_aas (p := 61) (n := 5) d_0_60 ⟨by decide, by decide⟩ rfl (fun h36 => ?_)
  refine zY_step (p := 64) (ls' := [.val (.ref a), .val (.int (6 : Int32))]) (st' := []) d_0_61 rfl ?_
  refine zY_step (p := 42) d_0_64 rfl ?_
  refine zY_step (p := 43) (ls' := [.val (.ref a), .val (.int (6 : Int32))]) (st' := [.int (6 : Int32)]) d_0_42 rfl ?_
  refine zY_step (p := 45) (ls' := [.val (.ref a), .val (.int (6 : Int32))]) (st' := [.int (6 : Int32), .int (6 : Int32)]) d_0_43 rfl ?_
  refine zY_step (p := 67) (ls' := [.val (.ref a), .val (.int (6 : Int32))]) (st' := []) d_0_45 rfl ?_
  refine zY_step (p := 68) (ls' := [.val (.ref a), .val (.int (6 : Int32))]) (st' := [.ref a]) d_0_67 rfl ?_
  refine zY_step (p := 69) (ls' := [.val (.ref a), .val (.int (6 : Int32))]) (st' := [.int (0 : Int32), .ref a]) d_0_68 rfl ?_
  refine zY_pi (p := 72) d_0_69 ow_0c pg_0_30_0 (by decide +kernel) rfl (fun h37 => ?_)
  refine zY_step (p := 73) (ls' := [.val (.ref a), .val (.int (6 : Int32))]) (st' := [.ref a]) d_0_72 rfl ?_
  refine zY_step (p := 74) (ls' := [.val (.ref a), .val (.int (6 : Int32))]) (st' := [.int (0 : Int32), .ref a]) d_0_73 rfl ?_
  refine zY_pi (p := 77) d_0_74 ow_0c pg_0_34_0 (by decide +kernel) rfl (fun h38 => ?_)
  refine zY_step (p := 78) (ls' := [.val (.ref a), .val (.int (6 : Int32))]) (st' := [.ref a]) d_0_77 rfl ?_
  refine zY_new (p := 81) d_0_78 ow_0c nw_0_23 rfl (fun r39 h40 => ?_)
  refine zY_step (p := 82) (ls' := [.val (.ref a), .val (.int (6 : Int32))]) (st' := [.ref r39, .ref r39, .ref a]) d_0_81 rfl ?_
  refine zY_call (p := 85) (st := [.ref r39, .ref a]) d_0_82 ow_0c rc_0_29 kk_2 rfl (t2 (d := _)) rfl rfl rfl rfl (fun h41 => ?_)
  refine zY_pr (p := 88) d_0_85 ow_0c pf_0_37 (by decide +kernel) rfl (fun h42 => ?_)
  refine zY_step (p := 89) (ls' := [.val (.ref a), .val (.int (6 : Int32))]) (st' := [.ref a]) d_0_88 rfl ?_
  refine zY_new (p := 92) d_0_89 ow_0c nw_0_41 rfl (fun r43 h44 => ?_)
  refine zY_step (p := 93) (ls' := [.val (.ref a), .val (.int (6 : Int32))]) (st' := [.ref r43, .ref r43, .ref a]) d_0_92 rfl ?_
  refine zY_call (p := 96) (st := [.ref r43, .ref a]) d_0_93 ow_0c rc_0_43 kk_9 rfl (t9 (d := _)) rfl rfl rfl rfl (fun h45 => ?_)
  refine zY_pr (p := 99) d_0_96 ow_0c pf_0_44 (by decide +kernel) rfl (fun h46 => ?_)
  refine zY_step (p := 100) (ls' := [.val (.ref a), .val (.int (6 : Int32))]) (st' := [.ref a]) d_0_99 rfl ?_
  refine zY_step (p := 103) (ls' := [.val (.ref a), .val (.int (6 : Int32))]) (st' := [.int (1024 : Int32), .ref a]) d_0_100 rfl ?_
  refine zY_arr (p := 105) (kd := 1) (n := 1024) d_0_103 (fun _ _ _ _ _ _ => rfl) ⟨by decide, by decide, by decide⟩ rfl (fun r47 h48 => ?_)
  refine zY_pr (p := 108) d_0_105 ow_0c pf_0_48 (by decide +kernel) rfl (fun h49 => ?_)
  exact zY_ret d_0_108 rt_0c
