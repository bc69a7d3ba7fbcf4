/-! The Go layer: a world whose references are place numbers, states of a frame over it, and 'in any machine that holds this state the run comes to an exit state'. -/
abbrev gE : Type := (Nat × vp_A) ⊕ (Nat × List Value)
abbrev gW : Type := List (Nat × gE)
abbrev gM : Type := MethodName × ByteArray × Nat × Option FieldType
abbrev gS : Type := Nat × List (Nat × Value) × List Value × gW
def gv (ad : Nat → Nat) : Value → Value
  | .ref k => .ref (ad k)
  | v => v
def gA (ad : Nat → Nat) : vp_A → vp_A
  | (n, .inr (.inr (.inr (.inr f)))) => (n, .inr (.inr (.inr (.inr (fun i => (f i).map ad)))))
  | a => a
def gC (ad : Nat → Nat) (cA : Nat → ClassId) : gE → va_E
  | .inl (t, a) => .inl (cA t, gA ad a)
  | .inr (ci, vs) => .inr (ci, vs.map (gv ad))
def gq (ad : Nat → Nat) (cA : Nat → ClassId) (q : Nat × gE) : Nat × va_E := (ad q.1, gC ad cA q.2)
def gw (ad : Nat → Nat) (cA : Nat → ClassId) (w : gW) : va_W := w.map (gq ad cA)
def gl (ad : Nat → Nat) (q : Nat × Value) : Nat × Value := (q.1, gv ad q.2)
def gT (cA : Nat → ClassId) : List (ClassId × FieldType) := [(cA 0, .int), (cA 1, .long), (cA 2, .object RX6)]
def gTB : List Cond := lw_tbl.filter goodWord
def gN (s : State) : Prop := ∀ q ∈ gNest, va_Nw (.methodLinkNest q.1 q.2.1 q.2.2.1 q.2.2.2) s
def gws (M : gM) : List Cond := .code M.1 M.2.1 M.2.2.1 M.2.2.2 :: gTB
def gX (M : gM) (p : Program) (s : State) (m : MethodId) (args : Array Value) (meth : Method) (c : Code) : Prop :=
  p.tables.exec = Jvm.exec ∧ c.code = M.2.1 ∧ meth.sig.returnType = M.2.2.2 ∧ c.maxLocals = M.2.2.1 ∧ s.vm.findClass M.1.cls = some m.cls ∧ (∀ w ∈ gTB, w.before args s = true) ∧ meth.locks = false ∧ gN s
def gIn (M : gM) (D : va_G) (ad : Nat → Nat) (cA : Nat → ClassId) (A : Nat → Prop) (H0 H : Heap) (locs : List Loc) (s : State) (ls : Array Slot) (lv : List (Nat × Value)) (w : gW) : Prop :=
  va_K D vwCl (gT cA) s ∧ va_P D vwCl (gw ad cA w) H ∧ va_D A (gw ad cA w) ∧ va_S A H0 H locs ∧ lv_has ls M.2.2.1 (lv.map (gl ad))
def Go (M : gM) (R : Room) (E : gS → Prop) (x : gS) : Prop :=
  ∀ (p : Program) (l : Launch) (e : Env) (s : State) (m : MethodId) (args : Array Value) (below : List Frame) (meth : Method) (c : Code) (D : va_G) (ad : Nat → Nat) (cA : Nat → ClassId) (A : Nat → Prop) (H0 : Heap) (cl sl : Nat) (Qf : State → Prop),
    gX M p s m args meth c → cl ≤ R.cells → sl ≤ R.slots → (∀ q : Nat, H0.size ≤ q → A q) →
    (∀ (y : gS) (H : Heap) (locs : List Loc) (ls : Array Slot), E y → gIn M D ad cA A H0 H locs s ls y.2.1 y.2.2.2 → W p l e R s m args below meth c H locs cl sl Qf (F0 m y.1 ls (y.2.2.1.map (gv ad)))) →
    ∀ (H : Heap) (locs : List Loc) (ls : Array Slot), gIn M D ad cA A H0 H locs s ls x.2.1 x.2.2.2 → W p l e R s m args below meth c H locs cl sl Qf (F0 m x.1 ls (x.2.2.1.map (gv ad)))
theorem gw_at {ad : Nat → Nat} {cA : Nat → ClassId} {w : gW} {k j : Nat} {e : gE} (h : w[k]? = some (j, e)) : (gw ad cA w)[k]? = some (ad j, gC ad cA e) := by
  unfold gw
  rw [List.getElem?_map, h]
  rfl
theorem gw_set {ad : Nat → Nat} {cA : Nat → ClassId} {w : gW} {k j : Nat} {e : gE} : gw ad cA (w.set k (j, e)) = (gw ad cA w).set k (ad j, gC ad cA e) := by
  unfold gw
  rw [List.map_set]
  rfl
theorem gv_cat (ad : Nat → Nat) (v : Value) : (gv ad v).category = v.category := by
  cases v <;> rfl
theorem gl_filter1 (ad : Nat → Nat) (i : Nat) (lv : List (Nat × Value)) : (lv.map (gl ad)).filter (fun q => !(q.1 == i) && !(q.1 + 1 == i && q.2.category == 2)) = (lv.filter (fun q => !(q.1 == i) && !(q.1 + 1 == i && q.2.category == 2))).map (gl ad) := by
  rw [List.filter_map]
  congr 1
  apply List.filter_congr
  intro q _
  simp [gl, gv_cat]
theorem gl_filter2 (ad : Nat → Nat) (i : Nat) (lv : List (Nat × Value)) : (lv.map (gl ad)).filter (fun q => !(q.1 == i) && (!(q.1 == i + 1) && !(q.1 + 1 == i && q.2.category == 2))) = (lv.filter (fun q => !(q.1 == i) && (!(q.1 == i + 1) && !(q.1 + 1 == i && q.2.category == 2)))).map (gl ad) := by
  rw [List.filter_map]
  congr 1
  apply List.filter_congr
  intro q _
  simp [gl, gv_cat]
/-- the local at a number -/
def gget : List (Nat × Value) → Nat → Option Value
  | [], _ => none
  | (j, v) :: t, i => bif j == i then some v else gget t i
def gset1 (lv : List (Nat × Value)) (i : Nat) (v : Value) : List (Nat × Value) := (i, v) :: lv.filter (fun q => !(q.1 == i) && !(q.1 + 1 == i && q.2.category == 2))
def gset2 (lv : List (Nat × Value)) (i : Nat) (v : Value) : List (Nat × Value) := (i, v) :: lv.filter (fun q => !(q.1 == i) && (!(q.1 == i + 1) && !(q.1 + 1 == i && q.2.category == 2)))
theorem gget_mem : ∀ {lv : List (Nat × Value)} {i : Nat} {v : Value}, gget lv i = some v → ∃ k : Nat, lv[k]? = some (i, v)
  | [], i, v, h => by cases h
  | (j, u) :: t, i, v, h => by
    unfold gget at h
    by_cases hj : j = i
    · subst hj
      simp at h
      subst h
      exact ⟨0, rfl⟩
    · have : (j == i) = false := by simpa using hj
      rw [this] at h
      obtain ⟨k, hk⟩ := gget_mem (by simpa using h)
      exact ⟨k + 1, hk⟩
theorem gget_at {ad : Nat → Nat} {ls : Array Slot} {nL : Nat} {lv : List (Nat × Value)} {i : Nat} {v : Value} (hl : lv_has ls nL (lv.map (gl ad))) (h : gget lv i = some v) : ls[i]? = some (.val (gv ad v)) := by
  obtain ⟨k, hk⟩ := gget_mem h
  exact lv_at hl k (by rw [List.getElem?_map, hk]; rfl)
/-- a cell by its place number: where it stands in the list, and what it is -/
def gfind : gW → Nat → Nat → Option (Nat × gE)
  | [], _, _ => none
  | (j, e) :: t, k, i => bif j == k then some (i, e) else gfind t k (i + 1)
theorem gfind_spec : ∀ {w : gW} {k i n : Nat} {e : gE}, gfind w k i = some (n, e) → ∃ d : Nat, n = i + d ∧ w[d]? = some (k, e)
  | [], k, i, n, e, h => by cases h
  | (j, e0) :: t, k, i, n, e, h => by
    unfold gfind at h
    by_cases hj : j = k
    · subst hj
      simp at h
      obtain ⟨rfl, rfl⟩ := h
      exact ⟨0, rfl, rfl⟩
    · have : (j == k) = false := by simpa using hj
      rw [this] at h
      obtain ⟨d, rfl, hd⟩ := gfind_spec (by simpa using h)
      exact ⟨d + 1, by omega, hd⟩
theorem gfind_at {w : gW} {k n : Nat} {e : gE} (h : gfind w k 0 = some (n, e)) : w[n]? = some (k, e) := by
  obtain ⟨d, rfl, hd⟩ := gfind_spec h
  simpa using hd
section GoRules
variable {M : gM} {R : Room} {E : gS → Prop} {pc : Nat} {lv : List (Nat × Value)} {st : List Value} {w : gW}
theorem Go.exit {x : gS} (h : E x) : Go M R E x := by
  intro p l e s m args below meth c D ad cA A H0 cl sl Qf X hc hs hA kE H locs ls hI
  exact kE x H locs ls h hI
theorem Go.trans {E1 : gS → Prop} {x : gS} (h : Go M R E1 x) (k : ∀ y, E1 y → Go M R E y) : Go M R E x := by
  intro p l e s m args below meth c D ad cA A H0 cl sl Qf X hc hs hA kE H locs ls hI
  exact h p l e s m args below meth c D ad cA A H0 cl sl Qf X hc hs hA (fun y H1 locs1 ls1 hy hI1 => k y hy p l e s m args below meth c D ad cA A H0 cl sl Qf X hc hs hA kE H1 locs1 ls1 hI1) H locs ls hI
/-- an instruction that changes the operand stack alone -/
theorem Go.stk {pc' : Nat} {st' : List Value} (hstep : ∀ (p : Program) (l : Launch) (e : Env) (s : State) (m : MethodId) (args : Array Value) (below : List Frame) (meth : Method) (c : Code) (ad : Nat → Nat) (cl sl : Nat) (Qf : State → Prop) (H : Heap) (locs : List Loc) (ls : Array Slot), gX M p s m args meth c → lv_has ls M.2.2.1 (lv.map (gl ad)) → W p l e R s m args below meth c H locs cl sl Qf (F0 m pc' ls (st'.map (gv ad))) → W p l e R s m args below meth c H locs cl sl Qf (F0 m pc ls (st.map (gv ad)))) (k : Go M R E (pc', lv, st', w)) : Go M R E (pc, lv, st, w) := by
  intro p l e s m args below meth c D ad cA A H0 cl sl Qf X hc hs hA kE H locs ls hI
  exact hstep p l e s m args below meth c ad cl sl Qf H locs ls X hI.2.2.2.2 (k p l e s m args below meth c D ad cA A H0 cl sl Qf X hc hs hA kE H locs ls hI)
end GoRules
