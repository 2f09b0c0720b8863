def zsl (h : ZH) : Nat := (h.2.2.map Prod.snd).sum
def zShp (h h' : ZH) : Prop := h'.2.2 = h.2.2 ∨ ∃ q, h'.2.2 = h.2.2 ++ [q]
set_option maxHeartbeats 4000000 in
theorem zstep_sh {sc : ZS} {y pc : Nat} {ins : Instr} {len : Nat} {ls : List Slot} {st : List Value} {h : ZH} {x : Nat × List Slot × List Value × ZH} (hz : zstep sc y pc ins len ls st h = some (.inl x)) : zShp h x.2.2.2 := by
  cases ins <;> simp only [zstep, zld, zst, zbin, zto, zif, zget, zput, zald, zast, zlen, zmka, zmko, zcpy, zclone, zcallS, zcallV, zcallI, zn] at hz
  all_goals (repeat' (split at hz))
  all_goals first | (cases hz; done) | (cases hz; exact Or.inl rfl) | (cases hz; exact Or.inr ⟨_, rfl⟩) | (simp at hz; done)
theorem zShp.le {h h' : ZH} (q : zShp h h') : h.2.2.length ≤ h'.2.2.length ∧ zsl h ≤ zsl h' := by
  rcases q with q | ⟨x, q⟩
  · unfold zsl; rw [q]; exact ⟨Nat.le_refl _, Nat.le_refl _⟩
  · unfold zsl; rw [q]; simp
theorem zrun_mono {sc : ZS} : ∀ (n d y pc : Nat) (ls : List Slot) (st : List Value) (h : ZH) (r : Option Value) (h' : ZH), zrun sc n d y pc ls st h = some (r, h') → h.2.2.length ≤ h'.2.2.length ∧ zsl h ≤ zsl h' := by
  intro n
  induction n with
  | zero => intro d y pc ls st h r h' hr; cases hr
  | succ n ih =>
    intro d y pc ls st h r h' hr
    unfold zrun at hr
    split at hr
    · cases hr
    · rename_i ins len hd
      split at hr
      · cases hr
      · rename_i pc' ls' st' h1 hz
        have a := (zstep_sh hz).le
        have b := ih _ _ _ _ _ _ _ _ hr
        exact ⟨Nat.le_trans a.1 b.1, Nat.le_trans a.2 b.2⟩
      · cases hr
        exact ⟨Nat.le_refl _, Nat.le_refl _⟩
      · split at hr
        · cases hr
        · split at hr
          · split at hr
            · cases hr
            · rename_i v h1 hc
              have a := ih _ _ _ _ _ _ _ _ hc
              have b := ih _ _ _ _ _ _ _ _ hr
              exact ⟨Nat.le_trans a.1 b.1, Nat.le_trans a.2 b.2⟩
          · cases hr
-- the tables' facts, by number
theorem zMTr_len : zMTr.length = zNM := by decide +kernel
theorem zMT_eq : zMT = zMTr ++ zMTl := by unfold zMT zMTr; simp only [List.append_assoc]
theorem zM_in {y : Nat} (h : y < zNM) : zM y ∈ zMTr := by
  unfold zM
  rw [zMT_eq, List.getD_eq_getElem?_getD, List.getElem?_append_left (by rw [zMTr_len]; exact h), List.getElem?_eq_getElem (by rw [zMTr_len]; exact h)]
  exact List.getElem_mem _
/-- the way to a private method of AbstractStringBuilder on a StringBuilder: follows from the tables -/
def zXW : List Cond := (zVL.filter fun q => q.2.2).map fun q => .selects "java/lang/StringBuilder" (zname q.1) (zname q.2.1)
def zTB : List Cond := (zXW ++ lw_tbl).filter goodWord
theorem zTB_in {w : Cond} (h : w ∈ lw_tbl) (hg : goodWord w = true) : w ∈ zTB := List.mem_filter.mpr ⟨List.mem_append_right _ h, hg⟩
theorem zTB_x {w : Cond} (h : w ∈ zXW) (hg : goodWord w = true) : w ∈ zTB := List.mem_filter.mpr ⟨List.mem_append_left _ h, hg⟩
def zws (k : Nat) : List Cond := Cond.code (zname k) (zcode k) (zml k) (zret k) :: zTB
theorem zws_good {k : Nat} (hk : k < zNM) : GoodIn zTB (zws k) := by
  intro w hw
  have hm : w ∈ zTB := by
    rcases List.mem_cons.mp hw with rfl | hw
    · exact zTB_in (zc1 _ (zM_in hk)) rfl
    · exact hw
  exact ⟨hm, good_of_word (List.mem_filter.mp hm).2⟩
def zrm (d mc ms : Nat) : Room := { frames := 2 * d + 2, cells := mc, slots := ms, locals := (d + 1) * 100 }
def zLv (E : ZE) (ls' : Array Slot) (ls : List Slot) : Prop := lv_wf ls' ∧ ls'.size = ls.length ∧ ∀ (i : Nat) (w : Value), ls[i]? = some (.val w) → w.category = 1 ∧ ls'[i]? = some (.val (zcv E w))
def zlv (E : ZE) (ls : List Slot) : List (Nat × Value) := (List.range ls.length).filterMap fun (i : Nat) => match (ls[i]? : Option Slot) with
  | some (Slot.val w) => some (i, zcv E w)
  | _ => none
theorem zlv_mem {E : ZE} {ls : List Slot} {i : Nat} {v : Value} : (i, v) ∈ zlv E ls ↔ ∃ w, ls[i]? = some (.val w) ∧ v = zcv E w := by
  unfold zlv
  rw [List.mem_filterMap]
  constructor
  · rintro ⟨a, -, ha⟩
    split at ha
    · rename_i w hw
      cases ha
      exact ⟨w, hw, rfl⟩
    · cases ha
  · rintro ⟨w, hw, rfl⟩
    refine ⟨i, List.mem_range.mpr (List.getElem?_eq_some_iff.mp hw).1, ?_⟩
    rw [hw]
theorem zLv.has {E : ZE} {ls' : Array Slot} {ls : List Slot} (h : zLv E ls' ls) : lv_has ls' ls.length (zlv E ls) := by
  refine ⟨h.2.1, h.1, fun q hq => ?_⟩
  obtain ⟨i, v⟩ := q
  obtain ⟨w, h1, h2⟩ := zlv_mem.mp hq
  have := (h.2.2 i w h1).2
  rw [this, h2]
theorem zLv.at {E : ZE} {ls' : Array Slot} {ls : List Slot} (h : zLv E ls' ls) {i : Nat} {w : Value} (hi : ls[i]? = some (.val w)) : ls'[i]? = some (.val (zcv E w)) := (h.2.2 i w hi).2
theorem zLv.set {E : ZE} {ls' ls2 : Array Slot} {ls : List Slot} {i : Nat} {v : Value} (hO : zeO E = .null ∨ ∃ t, zeO E = .ref t) (h : zLv E ls' ls) (hi : i < ls.length) (hv : v.category = 1) {lv : List (Nat × Value)} (hsub : ∀ q ∈ zlv E ls, q ∈ lv) (h2 : lv_has ls2 ls.length ((i, zcv E v) :: lv.filter (fun q => !(q.1 == i) && !(q.1 + 1 == i && q.2.category == 2)))) : zLv E ls2 (ls.set i (.val v)) := by
  refine ⟨h2.2.1, by rw [h2.1]; simp, fun j w hj => ?_⟩
  by_cases hji : j = i
  · subst hji
    rw [List.getElem?_set_self hi] at hj
    cases hj
    exact ⟨hv, h2.2.2 (j, zcv E v) List.mem_cons_self⟩
  · rw [List.getElem?_set_ne (Ne.symm hji)] at hj
    have hc := (h.2.2 j w hj).1
    refine ⟨hc, h2.2.2 (j, zcv E w) (List.mem_cons_of_mem _ (List.mem_filter.mpr ⟨hsub _ (zlv_mem.mpr ⟨w, hj, rfl⟩), ?_⟩))⟩
    have hc2 : (zcv E w).category = 1 := by rw [zcv_cat hO, hc]
    simp [hji, hc2]
theorem zLv.ent {E : ZE} (hO : zeO E = .null ∨ ∃ t, zeO E = .ref t) {as : List Value} {n : Nat} (hl : as.length ≤ n) (hc : ∀ w ∈ as, w.category = 1) : zLv E ((lg_sl (as.map (zcv E)) ++ List.replicate (n - (lg_sl (as.map (zcv E))).length) Slot.unset).toArray) (zent n as) := by
  have e : lg_sl (as.map (zcv E)) = as.map fun v => Slot.val (zcv E v) := by
    unfold lg_sl
    induction as with
    | nil => rfl
    | cons a as ih =>
      have h1 : (zcv E a).category = 1 := by rw [zcv_cat hO]; exact hc a List.mem_cons_self
      simp only [List.map_cons, List.flatMap_cons, h1]
      rw [ih (by simp at hl; omega) (fun w hw => hc w (List.mem_cons_of_mem _ hw))]
      rfl
  have hlen : (lg_sl (as.map (zcv E))).length = as.length := by rw [e]; simp
  obtain ⟨h1, h2, h3⟩ := lv_entry (as.map (zcv E)) (n := n) (by rw [hlen]; exact hl)
  refine ⟨h2, by rw [h1]; unfold zent; simp; omega, fun i w hw => ?_⟩
  unfold zent at hw
  by_cases hi : i < as.length
  · rw [List.getElem?_append_left (by simpa using hi), List.getElem?_map] at hw
    rw [List.getElem?_eq_getElem hi] at hw
    have hw2 : as[i] = w := by simpa using hw
    refine ⟨hw2 ▸ hc _ (List.getElem_mem hi), ?_⟩
    rw [e]
    rw [List.getElem?_toArray, List.getElem?_append_left (by simpa using hi), List.getElem?_map, List.getElem?_eq_getElem hi, hw2]
    rfl
  · rw [List.getElem?_append_right (by simp; omega)] at hw
    have := List.eq_of_mem_replicate (List.mem_of_getElem? hw)
    cases this
def zCx (E : ZE) (d y : Nat) (p : Program) (R : Room) (s : State) (m : MethodId) (args : Array Value) (meth : Method) (c : Code) : Prop :=
  p.tables.exec = Jvm.exec ∧ c.code = zcode y ∧ c.maxLocals = zml y ∧ s.vm.findClass (zcn (zown y)) = some m.cls ∧ (zkind y = 2 → meth.name = "<init>") ∧ (∀ w ∈ zTB, w.before args s = true) ∧ zSt E s s.heap ∧ 2 * d + 2 ≤ R.frames ∧ (d + 1) * 100 ≤ R.locals
def zFin (E : ZE) (l : Launch) (p : Program) (e : Env) (R : Room) (s : State) (m : MethodId) (args : Array Value) (below : List Frame) (meth : Method) (c : Code) (Q : State → Prop) (y X Y : Nat) (r : Option Value) (h' : ZH) : Prop :=
  (∀ (pc1 : Nat) (v : Int32) (H1 : Heap) (locs1 : List Loc) (ls1 : Array Slot) (c1 s1 : Nat), decode (zcode y) pc1 = .ok (.ireturn, 1) → r = some (.int v) → (∃ t, zret y = some t ∧ narrow t (.int v) = .int v) → zWo E h' H1 → va_S (zA E) s.heap H1 locs1 → c1 ≤ X → s1 ≤ Y → W p l e R s m args below meth c H1 locs1 c1 s1 Q (F0 m pc1 ls1 [.int v])) ∧
  (∀ (pc1 : Nat) (H1 : Heap) (locs1 : List Loc) (ls1 : Array Slot) (c1 s1 : Nat), decode (zcode y) pc1 = .ok (.return_, 1) → r = none → zret y = none → zWo E h' H1 → va_S (zA E) s.heap H1 locs1 → c1 ≤ X → s1 ≤ Y → W p l e R s m args below meth c H1 locs1 c1 s1 Q (F0 m pc1 ls1 [])) ∧
  (∀ (pc1 : Nat) (v : Value) (H1 : Heap) (locs1 : List Loc) (ls1 : Array Slot) (c1 s1 : Nat), decode (zcode y) pc1 = .ok (.areturn, 1) → (v = .null ∨ ∃ o, v = .ref o) → r = some v → zrt y = true → zWo E h' H1 → va_S (zA E) s.heap H1 locs1 → c1 ≤ X → s1 ≤ Y → W p l e R s m args below meth c H1 locs1 c1 s1 Q (F0 m pc1 ls1 [zcv E v]))
def zSound (l : Launch) (E : ZE) (n : Nat) : Prop := ∀ (d y pc : Nat) (ls : List Slot) (st : List Value) (h : ZH) (r : Option Value) (h' : ZH), zrun (zeS E) n d y pc ls st h = some (r, h') →
  ∀ (p : Program) (e : Env) (R : Room) (s : State) (m : MethodId) (args : Array Value) (below : List Frame) (meth : Method) (c : Code) (Q : State → Prop) (X Y : Nat), zCx E d y p R s m args meth c → zFin E l p e R s m args below meth c Q y X Y r h' → X ≤ R.cells → Y ≤ R.slots →
  ∀ (H : Heap) (locs : List Loc) (cells slots : Nat) (ls' : Array Slot), zLv E ls' ls → ls.length = zml y → zWo E h H → va_S (zA E) s.heap H locs → cells + h'.2.2.length ≤ X + h.2.2.length → slots + zsl h' ≤ Y + zsl h →
    W p l e R s m args below meth c H locs cells slots Q (F0 m pc ls' (st.map (zcv E)))
def zQc (E : ZE) (h1 : ZH) (v : Option Value) : Array Value → State → Outcome → State → Prop := fun _ st o t => o = .returned (v.map (zcv E)) ∧ zWo E h1 t.heap ∧ va_F (zA E) st t
def zPre (E : ZE) (h : ZH) : State → Prop := fun U => zSt E U U.heap ∧ zWo E h U.heap
theorem z_met {l : Launch} {E : ZE} {n : Nat} (IH : zSound l E n) (hO : zeO E = .null ∨ ∃ t, zeO E = .ref t) {d k : Nat} {as : List Value} {h h1 : ZH} {v : Option Value} (hk : k < zNM) (hrun : zrun (zeS E) n d k 0 (zent (zml k) as) [] h = some (v, h1)) (hlen : as.length ≤ zml k) (hcat : ∀ w ∈ as, w.category = 1) :
    Met l (zname k) (zws k) (zrm d (h1.2.2.length - h.2.2.length) (zsl h1 - zsl h)) (va_Pc (as.map (zcv E)) (zPre E h)) (zQc E h1 v) (h1.2.2.length - h.2.2.length) (zsl h1 - zsl h) (zA E) := by
  have hmo := zrun_mono _ _ _ _ _ _ _ _ _ hrun
  obtain ⟨h51, h52, -, -, -, h56, h57, -⟩ := zc5 _ (zM_in hk)
  refine Met.ofW (cc := zcode k) (maxL := zml k) (ret := zret k) h52 rfl ?_
  intro p e s m args below meth c s₁ B hml hv
  obtain ⟨rfl, hSt, hWo⟩ := hv
  rw [lg_entry_eq]
  have hts := atoms_spec (ws := zws k) B.pre
  refine IH d k 0 _ [] h v h1 hrun p e _ s m _ below meth c _ (h1.2.2.length - h.2.2.length) (zsl h1 - zsl h) ⟨B.exec, B.bytes, hml, ?_, fun h2 => ?_, fun w hw => hts w (List.mem_cons_of_mem _ hw), hSt, Nat.le_refl _, Nat.le_refl _⟩ ⟨?_, ?_, ?_⟩ (Nat.le_refl _) (Nat.le_refl _) s.heap [] 0 0 _ (zLv.ent hO hlen hcat) ?_ hWo va_S.rf ?_ ?_
  · show s.vm.findClass (zcn (zM k).2.2.2.2.2.2) = some m.cls
    rw [← h56]
    exact findClass_of_methodNamed B.named
  · have := (name_of_methodNamed B.named B.method).1
    rw [this]
    exact (h51 h2).1
  · intro pc1 w H1 locs1 ls1 c1 s1 hd hr ht hW1 hS1 hc1 hs1
    obtain ⟨t, ht1, ht2⟩ := ht
    refine W.widen hc1 hs1 ?_
    refine W.zret (ty := t) B.exec B.bytes (by rw [B.returns]; exact ht1) ht2 (fun T hT hW => ⟨by rw [hr]; rfl, by rw [hT]; exact hW1, hS1.F hT⟩) hS1.2.2 hd
  · intro pc1 H1 locs1 ls1 c1 s1 hd hr ht hW1 hS1 hc1 hs1
    refine W.widen hc1 hs1 ?_
    refine W.vret B.exec B.bytes (by rw [B.returns]; exact ht) (fun T hT hW => ⟨by rw [hr]; rfl, by rw [hT]; exact hW1, hS1.F hT⟩) hS1.2.2 hd
  · intro pc1 w H1 locs1 ls1 c1 s1 hd hw hr ht hW1 hS1 hc1 hs1
    obtain ⟨t, ht1, ht2⟩ : ∃ t, zret k = some t ∧ ((∃ n, t = .object n) ∨ ∃ u, t = .array u) := by
      unfold zrt at ht
      split at ht
      · rename_i n hz; exact ⟨_, hz, Or.inl ⟨n, rfl⟩⟩
      · rename_i u hz; exact ⟨_, hz, Or.inr ⟨u, rfl⟩⟩
      · cases ht
    refine W.widen hc1 hs1 ?_
    refine W.aret (rt := t) B.exec B.bytes (by rw [B.returns]; exact ht1) ht2 ?_ (fun T hT hW => ⟨by rw [hr]; rfl, by rw [hT]; exact hW1, hS1.F hT⟩) hS1.2.2 hd
    rcases hw with rfl | ⟨o, rfl⟩
    · exact Or.inl rfl
    · exact Or.inr ⟨_, rfl⟩
  · unfold zent; simp; omega
  · omega
  · omega
