/-! Cells are made: a judgement over states whose next place is free; the address of place 0 stays. -/
def gXi (M : gM) (p : Program) (s : State) (m : MethodId) (args : Array Value) (meth : Method) (c : Code) : Prop := gX M p s m args meth c ∧ (M.1.name = "<init>" → meth.name = "<init>") ∧ va_AO RX6 s
def Ga (M : gM) (R : Room) (E : gS → Nat → Nat → Prop) (x : gS) (cl sl : Nat) : Prop :=
  ∀ (p : Program) (l : Launch) (e : Env) (s : State) (m : MethodId) (args : Array Value) (below : List Frame) (meth : Method) (c : Code) (D : va_G) (cA : Nat → ClassId) (A : Nat → Prop) (H0 : Heap) (a0 : Nat) (Qf : State → Prop),
    gXi M p s m args meth c → (∀ q : Nat, H0.size ≤ q → A q) →
    (∀ (y : gS) (c1 s1 : Nat) (ad : Nat → Nat) (H : Heap) (locs : List Loc) (ls : Array Slot), E y c1 s1 → ad 0 = a0 → gIn M D ad cA A H0 H locs s ls y.2.1 y.2.2.2 → W p l e R s m args below meth c H locs c1 s1 Qf (F0 m y.1 ls (y.2.2.1.map (gv ad)))) →
    ∀ (ad : Nat → Nat) (H : Heap) (locs : List Loc) (ls : Array Slot), ad 0 = a0 → gIn M D ad cA A H0 H locs s ls x.2.1 x.2.2.2 → W p l e R s m args below meth c H locs cl sl Qf (F0 m x.1 ls (x.2.2.1.map (gv ad)))
def gvb (n : Nat) : Value → Bool
  | .ref k => decide (k < n)
  | _ => true
def geB (n : Nat) : gE → Bool
  | .inl _ => true
  | .inr (_, vs) => vs.all (gvb n)
def gwB (n : Nat) : gW → Bool
  | [] => true
  | q :: w => decide (q.1 < n) && (geB n q.2 && gwB n w)
def geF (n : Nat) : gE → Prop
  | .inl (_, _, .inr (.inr (.inr (.inr f)))) => ∀ i k, f i = some k → k < n
  | _ => True
def gwF (n : Nat) : gW → Prop
  | [] => True
  | q :: w => geF n q.2 ∧ gwF n w
def gBel (n : Nat) (lv : List (Nat × Value)) (st : List Value) (w : gW) : Prop := lv.all (fun q => gvb n q.2) = true ∧ st.all (gvb n) = true ∧ gwB n w = true ∧ gwF n w
theorem gv_cong {n : Nat} {ad ad' : Nat → Nat} (h : ∀ k, k < n → ad' k = ad k) {v : Value} (hv : gvb n v = true) : gv ad' v = gv ad v := by
  cases v with
  | ref k =>
    show Value.ref (ad' k) = Value.ref (ad k)
    rw [h k (of_decide_eq_true hv)]
  | _ => rfl
theorem gvs_cong {n : Nat} {ad ad' : Nat → Nat} (h : ∀ k, k < n → ad' k = ad k) {vs : List Value} (hv : vs.all (gvb n) = true) : vs.map (gv ad') = vs.map (gv ad) := by
  apply List.map_congr_left
  intro v hm
  exact gv_cong h (List.all_eq_true.mp hv v hm)
theorem gvs_nr {ad : Nat → Nat} {vs : List Value} (hv : vs.all (gvb 0) = true) : vs.map (gv ad) = vs := by
  rw [gvs_cong (ad := fun k => k) (n := 0) (fun k hk => absurd hk (Nat.not_lt_zero k)) hv, gvs_id]
theorem gl_cong {n : Nat} {ad ad' : Nat → Nat} (h : ∀ k, k < n → ad' k = ad k) {lv : List (Nat × Value)} (hv : lv.all (fun q => gvb n q.2) = true) : lv.map (gl ad') = lv.map (gl ad) := by
  apply List.map_congr_left
  intro q hm
  have h1 := List.all_eq_true.mp hv q hm
  unfold gl
  rw [gv_cong h h1]
theorem gC_cong {n : Nat} {ad ad' : Nat → Nat} (cA : Nat → ClassId) (h : ∀ k, k < n → ad' k = ad k) {e : gE} (hB : geB n e = true) (hF : geF n e) : gC ad' cA e = gC ad cA e := by
  obtain ⟨t, z, g | g | g | g | g⟩ | ⟨ci, vs⟩ := e
  · rfl
  · rfl
  · rfl
  · rfl
  · have e1 : (fun i => (g i).map ad') = (fun i => (g i).map ad) := by
      funext i
      cases hg : g i with
      | none => rfl
      | some k =>
        show some (ad' k) = some (ad k)
        rw [h k (hF i k hg)]
    show Sum.inl (cA t, (z, Sum.inr (Sum.inr (Sum.inr (Sum.inr (fun i => (g i).map ad')))))) = Sum.inl (cA t, (z, Sum.inr (Sum.inr (Sum.inr (Sum.inr (fun i => (g i).map ad))))))
    rw [e1]
  · show Sum.inr (ci, vs.map (gv ad')) = Sum.inr (ci, vs.map (gv ad))
    rw [gvs_cong h hB]
theorem gw_cong {n : Nat} {ad ad' : Nat → Nat} (cA : Nat → ClassId) (h : ∀ k, k < n → ad' k = ad k) : ∀ (w : gW), gwB n w = true → gwF n w → gw ad' cA w = gw ad cA w := by
  intro w
  induction w with
  | nil =>
    intro _ _
    rfl
  | cons q w ih =>
    intro hB hF
    have hB2 : decide (q.1 < n) = true ∧ geB n q.2 = true ∧ gwB n w = true := by
      have h0 : (decide (q.1 < n) && (geB n q.2 && gwB n w)) = true := hB
      simp only [Bool.and_eq_true] at h0
      exact h0
    obtain ⟨h1, h2, h3⟩ := hB2
    show gq ad' cA q :: gw ad' cA w = gq ad cA q :: gw ad cA w
    rw [ih h3 hF.2]
    unfold gq
    rw [gC_cong cA h h2 hF.1, h q.1 (of_decide_eq_true h1)]
theorem gw_app (ad : Nat → Nat) (cA : Nat → ClassId) (w w' : gW) : gw ad cA (w ++ w') = gw ad cA w ++ gw ad cA w' := by
  unfold gw
  rw [List.map_append]
/-- behind a constructor: its object as it is now, the other cells as they were, and what it made -/
theorem gJoin {A0 : Nat → Prop} {D : va_G} {cl : List vw_C} {ws rest : va_W} {i b : Nat} {e0 e3 : va_E} {H H1 : Heap} (hP : va_P D cl ws H) (hD : va_D A0 ws) (hi : ws[i]? = some (b, e0)) (hk : ∀ q : Nat, q < H.size → ¬ va_A [(b, e0)] H.size q → H1[q]? = H[q]?) (hF : ∀ q, va_A [(b, e0)] H.size q → A0 q) (hP1 : va_P D cl ((b, e3) :: rest) H1) (hD1 : va_D (va_A [(b, e0)] H.size) ((b, e3) :: rest)) : va_P D cl (ws.set i (b, e3) ++ rest) H1 ∧ va_D A0 (ws.set i (b, e3) ++ rest) := by
  have hil : i < ws.length := (List.getElem?_eq_some_iff.mp hi).1
  have hA1 : ∀ q : Nat, va_A [(b, e0)] H.size q → q = b ∨ H.size ≤ q := by
    intro q h
    rcases h with ⟨k, e, h⟩ | h
    · have hz : k < 1 := (List.getElem?_eq_some_iff.mp h).1
      rw [show k = 0 by omega] at h
      cases h
      exact Or.inl rfl
    · exact Or.inr h
  have old : ∀ (k : Nat) (q : Nat × va_E), (ws.set i (b, e3))[k]? = some q → (k = i ∧ q = (b, e3)) ∨ (k ≠ i ∧ ws[k]? = some q) := by
    intro k q h
    by_cases hk : i = k
    · subst hk
      rw [List.getElem?_set_self hil] at h
      exact Or.inl ⟨rfl, (Option.some.inj h).symm⟩
    · rw [List.getElem?_set_ne hk] at h
      exact Or.inr ⟨fun e => hk e.symm, h⟩
  have oldA : ∀ (k : Nat) (q : Nat × va_E), (ws.set i (b, e3))[k]? = some q → ∃ q0, ws[k]? = some q0 ∧ q0.1 = q.1 := by
    intro k q h
    rcases old k q h with ⟨h1, h2⟩ | ⟨-, h2⟩
    · subst h1
      subst h2
      exact ⟨_, hi, rfl⟩
    · exact ⟨q, h2, rfl⟩
  have oldlt : ∀ (k : Nat) (q : Nat × va_E), (ws.set i (b, e3))[k]? = some q → q.1 < H.size := by
    intro k q h
    obtain ⟨q0, h1, h2⟩ := oldA k q h
    rw [← h2]
    exact (hP k q0 h1).lt
  have newge : ∀ (k : Nat) (q : Nat × va_E), rest[k]? = some q → H.size ≤ q.1 := by
    intro k q h
    have h1 : ((b, e3) :: rest)[k + 1]? = some q := h
    rcases hA1 q.1 (hD1.2 (k + 1) q h1) with h2 | h2
    · have h3 := hD1.1 (k + 1) 0 q (b, e3) h1 rfl h2
      omega
    · exact h2
  have hDo : va_D A0 (ws.set i (b, e3)) := hD.set hi
  have hDn : va_D A0 rest := by
    refine ⟨fun x y p q hx hy hxy => ?_, fun k q h => hF q.1 (hD1.2 (k + 1) q h)⟩
    have := hD1.1 (x + 1) (y + 1) p q hx hy hxy
    omega
  refine ⟨va_P.app (fun k q h => ?_) (fun k q h => hP1 (k + 1) q h), va_D.app hDo hDn (fun x y p q hx hy hxy => ?_)⟩
  · rcases old k q h with ⟨h1, h2⟩ | ⟨h1, h2⟩
    · subst h2
      exact hP1 0 _ rfl
    · have hat := hP k q h2
      refine hat.kept (hk q.1 hat.lt ?_)
      intro h3
      rcases hA1 q.1 h3 with h4 | h4
      · exact h1 (hD.1 k i q (b, e0) h2 hi h4)
      · exact absurd hat.lt (Nat.not_lt.mpr h4)
  · have h1 := oldlt x p hx
    have h2 := newge y q hy
    rw [hxy] at h1
    omega
section GaRules
variable {M : gM} {R : Room} {E : gS → Nat → Nat → Prop} {pc : Nat} {lv : List (Nat × Value)} {st : List Value} {w : gW} {cl sl : Nat}
theorem Ga.exit {x : gS} (h : E x cl sl) : Ga M R E x cl sl := by
  intro p l e s m args below meth c D cA A H0 a0 Qf X hA kE ad H locs ls ha hI
  exact kE x cl sl ad H locs ls h ha hI
theorem Ga.go {E' : gS → Prop} {x : gS} (hc : cl ≤ R.cells) (hs : sl ≤ R.slots) (h : Go M R E' x) (k : ∀ y, E' y → Ga M R E y cl sl) : Ga M R E x cl sl := by
  intro p l e s m args below meth c D cA A H0 a0 Qf X hA kE ad H locs ls ha hI
  exact h p l e s m args below meth c D ad cA A H0 cl sl Qf X.1 hc hs hA (fun y H1 locs1 ls1 hy hI1 => k y hy p l e s m args below meth c D cA A H0 a0 Qf X hA kE ad H1 locs1 ls1 ha hI1) H locs ls hI
theorem Ga.run {I : gI} {L : List (Nat × Instr)} (hd : gDec M.2.1 L) (hI : gIok M.1.cls I) (i n : Nat) {x : gS} (y : gS) (cs : List Prop) (h : prun I M.2.2.1 ((L.drop i).take n) x = some (y, cs)) (hc : gAll cs) (hcl : cl ≤ R.cells) (hsl : sl ≤ R.slots) (k : Ga M R E y cl sl) : Ga M R E x cl sl :=
  Ga.go hcl hsl (Go.run hd hI i n y cs h hc (Go.exit (E := fun z => z = y) rfl)) (fun z hz => by rw [hz]; exact k)
theorem Ga.ext {p : Program} {l : Launch} {e0 : Env} {s : State} {m : MethodId} {args : Array Value} {below : List Frame} {meth : Method} {c : Code} {D : va_G} {cA : Nat → ClassId} {A : Nat → Prop} {H0 : Heap} {a0 : Nat} {Qf : State → Prop} {pc' n c1 s1 : Nat} {e : gE} (k : Ga M R E (pc', lv, .ref n :: st, w ++ [(n, e)]) c1 s1) (h0 : 0 < n) (hb : gBel n lv st w) (X : gXi M p s m args meth c) (hA : ∀ q : Nat, H0.size ≤ q → A q)
    (kE : ∀ (y : gS) (c1 s1 : Nat) (ad : Nat → Nat) (H : Heap) (locs : List Loc) (ls : Array Slot), E y c1 s1 → ad 0 = a0 → gIn M D ad cA A H0 H locs s ls y.2.1 y.2.2.2 → W p l e0 R s m args below meth c H locs c1 s1 Qf (F0 m y.1 ls (y.2.2.1.map (gv ad))))
    {ad : Nat → Nat} (ha : ad 0 = a0) {H : Heap} {locs : List Loc} {ls : Array Slot} (hI : gIn M D ad cA A H0 H locs s ls lv w) (ce : va_E) (hce : ∀ ad', gC ad' cA e = ce) {q : Nat} {H1 : Heap} {locs1 : List Loc} (p1 : va_P D vwCl (gw ad cA w ++ [(q, ce)]) H1) (p2 : va_D A (gw ad cA w ++ [(q, ce)])) (p3 : va_S A H0 H1 locs1) : W p l e0 R s m args below meth c H1 locs1 c1 s1 Qf (F0 m pc' ls (.ref q :: st.map (gv ad))) := by
  obtain ⟨ad', hq, hag⟩ : ∃ ad' : Nat → Nat, ad' n = q ∧ ∀ k, k < n → ad' k = ad k := ⟨fun j => if j = n then q else ad j, if_pos rfl, fun k hk => if_neg (Nat.ne_of_lt hk)⟩
  have e1 := gw_cong cA hag w hb.2.2.1 hb.2.2.2
  have e2 : gw ad' cA (w ++ [(n, e)]) = gw ad cA w ++ [(q, ce)] := by
    rw [gw_app, e1]
    show _ ++ [(ad' n, gC ad' cA e)] = _
    rw [hq, hce]
  have e3 : (Value.ref n :: st).map (gv ad') = .ref q :: st.map (gv ad) := by
    show Value.ref (ad' n) :: st.map (gv ad') = _
    rw [hq, gvs_cong hag hb.2.1]
  rw [← e3]
  refine k p l e0 s m args below meth c D cA A H0 a0 Qf X hA kE ad' H1 locs1 ls (by rw [hag 0 h0]; exact ha) ⟨hI.1, ?_, ?_, p3, ?_⟩
  · show va_P D vwCl (gw ad' cA (w ++ [(n, e)])) H1
    rw [e2]
    exact p1
  · show va_D A (gw ad' cA (w ++ [(n, e)]))
    rw [e2]
    exact p2
  · show lv_has ls M.2.2.1 (lv.map (gl ad'))
    rw [gl_cong hag hb.1]
    exact hI.2.2.2.2
/-- how a class is made: the words of it are in the tables -/
def gLO (own : String) (idx : Nat) (ci : Nat) (C : String) (T : u_T) (N : Nat) (ty : Nat → FieldType) : Prop := vwCl[ci]? = some (C, T, N) ∧ (∀ w ∈ u_ws C T N, w ∈ gTB) ∧ (∀ k, k < N → parseFieldDescriptor (T k).2.2.1 = some (ty k)) ∧ Cond.classLink own idx C ∈ gTB ∧ Cond.instantiable C N ∈ gTB ∧ Cond.initialized C ∈ gTB
theorem Ga.new {C : String} {T : u_T} {N idx ci : Nat} {ty : Nat → FieldType} (hL : gLO M.1.cls idx ci C T N ty) (n : Nat) (fs : List Value) (h0 : 0 < n) (hb : gBel n lv st w) (hfs : ∀ j, j < N → defaultValue (ty j) = vp_V fs j) (hnr : fs.all (gvb 0) = true) (hc : cl + 1 ≤ R.cells) (hs : sl + N ≤ R.slots) (hd : decode M.2.1 pc = .ok (.new idx, 3)) (k : Ga M R E (pc + 3, lv, .ref n :: st, w ++ [(n, .inr (ci, fs))]) (cl + 1) (sl + N)) : Ga M R E (pc, lv, st, w) cl sl := by
  intro p l e s m args below meth c D cA A H0 a0 Qf X hA kE ad H locs ls ha hI
  obtain ⟨hci, hu, hty, h1, h2, h3⟩ := hL
  refine va_new (Ts := gTB) (fs := fs) X.1.1 X.1.2.1 X.1.2.2.2.2.2.1 hu ty hty X.1.2.2.2.2.1 (X.1.2.2.2.2.2.1 _ h1) (X.1.2.2.2.2.2.1 _ h2) (X.1.2.2.2.2.2.1 _ h3) hI.1 hI.2.1 hI.2.2.1 hI.2.2.2.1 hA hci hfs hc hs hd (fun q H1 p1 p2 p3 => ?_)
  refine Ga.ext k h0 hb X hA kE ha hI (.inr (ci, fs)) (fun ad' => ?_) p1 p2 p3
  show Sum.inr (ci, fs.map (gv ad')) = Sum.inr (ci, fs)
  rw [gvs_nr hnr]
theorem Ga.newI {x : Int32} (N n : Nat) (h0 : 0 < n) (hb : gBel n lv st w) (h1 : Cond.arrayClass .int ∈ gTB) (hx : ¬ x < 0) (hN : x.toNatClampNeg = N) (hby : N * 4 ≤ 536870912) (hc : cl + 1 ≤ R.cells) (hs : sl + N ≤ R.slots) (hd : decode M.2.1 pc = .ok (.newarray .int, 2)) (k : Ga M R E (pc + 2, lv, .ref n :: st, w ++ [(n, .inl (0, N, .inl (fun _ => 0)))]) (cl + 1) (sl + N)) : Ga M R E (pc, lv, .int x :: st, w) cl sl := by
  intro p l e s m args below meth c D cA A H0 a0 Qf X hA kE ad H locs ls ha hI
  refine va_newa (atype := .int) (ty := .int) (a0 := (N, .inl (fun _ => 0))) X.1.1 X.1.2.1 (X.1.2.2.2.2.2.1 _ h1) rfl hI.1 hI.2.1 hI.2.2.1 hI.2.2.2.1 hA (fun _ => rfl) hx hN hby hc hs hd (fun q cB H1 p0 p1 p2 p3 => ?_)
  have e1 : s.vm.findClass ("[" ++ FieldType.int.toString) = some cB := (p0.2 3 (cB, .int) rfl).2
  have e2 : s.vm.findClass ("[" ++ FieldType.int.toString) = some (cA 0) := (hI.1.2 0 (cA 0, .int) rfl).2
  have e3 : cB = cA 0 := Option.some.inj (e1.symm.trans e2)
  subst e3
  exact Ga.ext k h0 hb X hA kE ha hI (.inl (cA 0, (N, .inl (fun _ => 0)))) (fun _ => rfl) p1 p2 p3
theorem Ga.newL {x : Int32} (N n : Nat) (h0 : 0 < n) (hb : gBel n lv st w) (h1 : Cond.arrayClass .long ∈ gTB) (hx : ¬ x < 0) (hN : x.toNatClampNeg = N) (hby : N * 8 ≤ 536870912) (hc : cl + 1 ≤ R.cells) (hs : sl + N ≤ R.slots) (hd : decode M.2.1 pc = .ok (.newarray .long, 2)) (k : Ga M R E (pc + 2, lv, .ref n :: st, w ++ [(n, .inl (1, N, .inr (.inl (fun _ => 0))))]) (cl + 1) (sl + N)) : Ga M R E (pc, lv, .int x :: st, w) cl sl := by
  intro p l e s m args below meth c D cA A H0 a0 Qf X hA kE ad H locs ls ha hI
  refine va_newa (atype := .long) (ty := .long) (a0 := (N, .inr (.inl (fun _ => 0)))) X.1.1 X.1.2.1 (X.1.2.2.2.2.2.1 _ h1) rfl hI.1 hI.2.1 hI.2.2.1 hI.2.2.2.1 hA (fun _ => rfl) hx hN hby hc hs hd (fun q cB H1 p0 p1 p2 p3 => ?_)
  have e1 : s.vm.findClass ("[" ++ FieldType.long.toString) = some cB := (p0.2 3 (cB, .long) rfl).2
  have e2 : s.vm.findClass ("[" ++ FieldType.long.toString) = some (cA 1) := (hI.1.2 1 (cA 1, .long) rfl).2
  have e3 : cB = cA 1 := Option.some.inj (e1.symm.trans e2)
  subst e3
  exact Ga.ext k h0 hb X hA kE ha hI (.inl (cA 1, (N, .inr (.inl (fun _ => 0))))) (fun _ => rfl) p1 p2 p3
theorem Ga.newQ {x : Int32} {idx : Nat} (N n : Nat) (h0 : 0 < n) (hb : gBel n lv st w) (h1 : Cond.classLink M.1.cls idx RX6 ∈ gTB) (hx : ¬ x < 0) (hN : x.toNatClampNeg = N) (hby : N * 4 ≤ 536870912) (hc : cl + 1 ≤ R.cells) (hs : sl + N ≤ R.slots) (hd : decode M.2.1 pc = .ok (.anewarray idx, 3)) (k : Ga M R E (pc + 3, lv, .ref n :: st, w ++ [(n, .inl (2, N, .inr (.inr (.inr (.inr (fun _ => none))))))]) (cl + 1) (sl + N)) : Ga M R E (pc, lv, .int x :: st, w) cl sl := by
  intro p l e s m args below meth c D cA A H0 a0 Qf X hA kE ad H locs ls ha hI
  refine va_newq (C := RX6) X.1.1 X.1.2.1 X.1.2.2.2.2.1 (X.1.2.2.2.2.2.1 _ h1) X.2.2 hI.1 hI.2.1 hI.2.2.1 hI.2.2.2.1 hA hx hN hby hc hs hd (fun q cB H1 p0 p1 p2 p3 => ?_)
  obtain ⟨kA, comp, -, -, -, e1⟩ := (p0.2 3 (cB, .object RX6) rfl).2
  obtain ⟨kA2, comp2, -, -, -, e2⟩ := (hI.1.2 2 (cA 2, .object RX6) rfl).2
  have e3 : cB = cA 2 := Option.some.inj (e1.symm.trans e2)
  subst e3
  exact Ga.ext k h0 hb X hA kE ha hI (.inl (cA 2, (N, .inr (.inr (.inr (.inr (fun _ => none))))))) (fun _ => rfl) p1 p2 p3
/-- a final field is put in its own constructor -/
theorem Ga.putF {I : gI} (hI9 : gIok M.1.cls I) (hini : M.1.name = "<init>") {idx a n ci f : Nat} {fs : List Value} {v : Value} (hf : gfind w a 0 = some (n, .inr (ci, fs))) (hk : gfk I.1 idx ci = some f) (hq : (match vwCl[ci]? with
    | some q => (q.2.1 f).2.2.2 && ((q.2.1 f).1 == M.1.cls && (match parseFieldDescriptor (q.2.1 f).2.2.1 with
      | some ty => gfits ty v
      | none => false))
    | none => false) = true) (hl : f < fs.length) (hd : decode M.2.1 pc = .ok (.putfield idx, 3)) (w1 : gW) (hw : w.set n (a, .inr (ci, fs.set f v)) = w1) (k : Ga M R E (pc + 3, lv, st, w1) cl sl) : Ga M R E (pc, lv, v :: .ref a :: st, w) cl sl := by
  subst hw
  intro p l e s m args below meth c D cA A H0 a0 Qf X hA kE ad H locs ls ha hN
  obtain ⟨C, T, N, ref, ty, h1, h2, h3, h4, h5, h6, h7⟩ := hI9.1 _ (gfk_mem hk)
  dsimp only at h1 h2
  rw [h1] at hq
  simp only [Bool.and_eq_true] at hq
  obtain ⟨q1, q0, q2⟩ := hq
  have q0 : (T f).1 = M.1.cls := by simpa using q0
  have h6f := h6 f h2
  rw [h6f] at q2
  obtain ⟨n1, n2⟩ := gfits_spec ad q2
  refine va_putF (Ts := gTB) (ref := ref) (v := gv ad v) (ty := ty f) X.1.1 X.1.2.1 X.1.2.2.2.2.2.1 h5 ty h6 h7 X.1.2.2.2.2.1 hN.1 hN.2.1 hN.2.2.1 hN.2.2.2.1 n (gw_at (gfind_at hf)) h1 f h2 (X.1.2.2.2.2.2.1 _ h3) ?_ q1 (X.2.1 hini) q0 h6f n1 n2 (by rw [List.length_map]; exact hl) hd (fun H1 locs1 p1 p2 p3 => ?_)
  · rcases h4 with rfl | h4
    · exact fun _ h9 => h9
    · exact fun x9 h9 => u_same (X.1.2.2.2.2.2.1 _ h4) x9 h9
  · refine k p l e s m args below meth c D cA A H0 a0 Qf X hA kE ad H1 locs1 ls ha ⟨hN.1, ?_, ?_, p3, hN.2.2.2.2⟩
    · show va_P D vwCl (gw ad cA (w.set n (a, .inr (ci, fs.set f v)))) H1
      rw [gw_set, gC, List.map_set]
      exact p1
    · show va_D A (gw ad cA (w.set n (a, .inr (ci, fs.set f v))))
      rw [gw_set, gC, List.map_set]
      exact p2
/-- Object's own constructor -/
theorem Ga.obj {idx a : Nat} (h1 : Cond.methodLink M.1.cls idx objectInit ∈ gTB) (h2 : Cond.instanceMethod objectInit ∈ gTB) (h3 : Cond.code objectInit ⟨#[0xb1]⟩ 1 none ∈ gTB) (hfr : 1 ≤ R.frames) (hlo : 20 ≤ R.locals) (hW : (st.map fun v => v.category).sum ≤ 8) (hd : decode M.2.1 pc = .ok (.invokespecial idx, 3)) (k : Ga M R E (pc + 3, lv, st, w) cl sl) : Ga M R E (pc, lv, .ref a :: st, w) cl sl := by
  intro p l e s m args below meth c D cA A H0 a0 Qf X hA kE ad H locs ls ha hI
  refine W.objInit X.1.1 X.1.2.1 X.1.2.2.2.2.1 (X.1.2.2.2.2.2.1 _ h1) (X.1.2.2.2.2.2.1 _ h2) (X.1.2.2.2.2.2.1 _ h3) rfl (hI.2.2.2.2.1.trans X.1.2.2.2.1.symm) rfl hd hfr ?_ ?_
  · have h9 := lv_room (m := m) (pc := pc) (ls := ls) (rest := (Value.ref a :: st).map (gv ad)) (st := st.map (gv ad)) (by rw [gst_cat]; exact hW)
    have h10 : 2 * (F0 m pc ls ((Value.ref a :: st).map (gv ad))).monitorRoom + ((st.map (gv ad)).map fun v => v.category).sum ≤ 8 := h9
    exact Nat.le_trans (Nat.add_le_add_right h10 12) hlo
  · exact k p l e s m args below meth c D cA A H0 a0 Qf X hA kE ad H locs ls ha hI
/-- an object is put into the row of sheets -/
theorem Ga.aast {a q0 z v qk : Nat} {vs : List Value} {f : Nat → Option Nat} {i : Int32} (hf : gfind w a 0 = some (q0, .inl (2, z, .inr (.inr (.inr (.inr f)))))) (hv : gfind w v 0 = some (qk, .inr (6, vs))) (hin : vp_in i z) (hd : decode M.2.1 pc = .ok (.aastore, 1)) (w1 : gW) (hw : w.set q0 (a, .inl (2, z, .inr (.inr (.inr (.inr (va_up f i.toNatClampNeg (some v))))))) = w1) (k : Ga M R E (pc + 1, lv, st, w1) cl sl) : Ga M R E (pc, lv, .ref v :: .int i :: .ref a :: st, w) cl sl := by
  subst hw
  intro p l e s m args below meth c D cA A H0 a0 Qf X hA kE ad H locs ls ha hN
  refine va_astq (r := (RX6, TX6, 3)) X.1.1 X.1.2.1 hN.1 hN.2.1 hN.2.2.1 hN.2.2.2.1 q0 2 qk 6 (gw_at (gfind_at hf)) rfl (gw_at (gfind_at hv)) rfl hin hd (fun H1 locs1 p1 p2 p3 => ?_)
  have e9 : (fun i9 => (va_up f i.toNatClampNeg (some v) i9).map ad) = va_up (fun i9 => (f i9).map ad) i.toNatClampNeg (some (ad v)) := by
    funext q
    by_cases hq : q = i.toNatClampNeg
    · simp [va_up, hq]
    · simp [va_up, hq]
  have e8 : gC ad cA (.inl (2, z, .inr (.inr (.inr (.inr (va_up f i.toNatClampNeg (some v))))))) = .inl (cA 2, z, .inr (.inr (.inr (.inr (va_up (fun i9 => (f i9).map ad) i.toNatClampNeg (some (ad v))))))) := by
    rw [← e9]
    rfl
  refine k p l e s m args below meth c D cA A H0 a0 Qf X hA kE ad H1 locs1 ls ha ⟨hN.1, ?_, ?_, p3, hN.2.2.2.2⟩
  · show va_P D vwCl (gw ad cA (w.set q0 _)) H1
    rw [gw_set, e8]
    exact p1
  · show va_D A (gw ad cA (w.set q0 _))
    rw [gw_set, e8]
    exact p2
end GaRules
/-- what a constructor leaves: its object, and the cells that it made -/
def gQn (D : va_G) (a : Nat) (cA : Nat → ClassId) (A : Nat → Prop) (w3 : gW) : Array Value → State → Outcome → State → Prop := fun _ s o t =>
  (∃ ad : Nat → Nat, ad 0 = a ∧ o = .returned none ∧ va_P D vwCl (gw ad cA w3) t.heap ∧ va_D A (gw ad cA w3)) ∧ va_F A s t
def gPn (D : va_G) (a : Nat) (cA : Nat → ClassId) (sz ci : Nat) (fs : List Value) (U : State) : Prop := U.heap.size = sz ∧ va_P D vwCl [(a, .inr (ci, fs))] U.heap ∧ va_K D vwCl (gT cA) U ∧ gN U ∧ va_AO RX6 U
def Cn (M : gM) (R : Room) (av : List Value) (ci : Nat) (fs fs3 : List Value) (rest : gW) : Prop :=
  ∀ (l : Launch) (D : va_G) (a : Nat) (cA : Nat → ClassId) (sz : Nat), Met l M.1 (gws M) R (va_Pc (.ref a :: av) (gPn D a cA sz ci fs)) (gQn D a cA (va_A [(a, .inr (ci, fs))] sz) ((0, .inr (ci, fs3)) :: rest)) R.cells R.slots (va_A [(a, .inr (ci, fs))] sz)
def gEnd (M : gM) (w3 : gW) (R : Room) : gS → Nat → Nat → Prop := fun y c1 s1 => decode M.2.1 y.1 = .ok (.return_, 1) ∧ y.2.2.1 = [] ∧ y.2.2.2 = w3 ∧ c1 = R.cells ∧ s1 = R.slots
theorem va_D1 (a sz : Nat) (e : va_E) : va_D (va_A [(a, e)] sz) [(a, e)] := by
  refine ⟨fun i j p q hi hj _ => ?_, fun k q hk => va_A.in hk⟩
  have h1 : i < 1 := (List.getElem?_eq_some_iff.mp hi).1
  have h2 : j < 1 := (List.getElem?_eq_some_iff.mp hj).1
  omega
theorem Cn.of {M : gM} {R : Room} {av : List Value} {ci : Nat} {fs fs3 : List Value} {rest : gW} (hy : plainName M.1.cls = true) (hini : M.1.name = "<init>") (hret : M.2.2.2 = none) (hav : av.all (gvb 0) = true) (hfs : fs.all (gvb 0) = true) (hn : (lg_sl (.ref 0 :: av)).length ≤ M.2.2.1) (h : Ga M R (gEnd M ((0, .inr (ci, fs3)) :: rest) R) (0, lv_args 0 (.ref 0 :: av), [], [(0, .inr (ci, fs))]) 0 0) : Cn M R av ci fs fs3 rest := by
  intro l D a cA sz
  refine Met.ofW (cc := M.2.1) (maxL := M.2.2.1) (ret := M.2.2.2) hy rfl ?_
  intro p e s m args below meth c s₁ B hml hv
  obtain ⟨rfl, hsz, hP, hK, hN, hO⟩ := hv
  have hts := atoms_spec (ws := gws M) B.pre
  have hown : s.vm.findClass M.1.cls = some m.cls := findClass_of_methodNamed B.named
  have hlocks := B.notSynchronized
  have hin : meth.name = M.1.name := (name_of_methodNamed B.named B.method).1
  subst hsz
  have hD := va_D1 a s.heap.size (.inr (ci, fs))
  generalize hAe : va_A [(a, .inr (ci, fs))] s.heap.size = A at hD ⊢
  have hA : ∀ q : Nat, s.heap.size ≤ q → A q := fun q h => by rw [← hAe]; exact Or.inr h
  have eav : (Value.ref 0 :: av).map (gv (fun _ => a)) = .ref a :: av := by
    show Value.ref a :: av.map (gv (fun _ => a)) = _
    rw [gvs_nr hav]
  have hl := lv_entry (.ref a :: av) (n := M.2.2.1) (by rw [← eav, gl_slots]; exact hn)
  rw [lg_entry_eq]
  generalize (lg_sl (.ref a :: av) ++ List.replicate (M.2.2.1 - (lg_sl (.ref a :: av)).length) Slot.unset).toArray = ls at hl ⊢
  rw [← eav, gl_args] at hl
  have X : gXi M p s m (.ref a :: av).toArray meth c := ⟨⟨B.exec, B.bytes, B.returns, hml, hown, fun w hw => hts w (List.mem_cons_of_mem _ hw), hlocks, hN⟩, fun h9 => hin.trans h9, hO⟩
  have ew : gw (fun _ => a) cA [(0, .inr (ci, fs))] = [(a, .inr (ci, fs))] := by
    show [(a, Sum.inr (ci, fs.map (gv (fun _ => a))))] = _
    rw [gvs_nr hfs]
  refine h p l e s m _ below meth c D cA A s.heap a _ X hA ?_ (fun _ => a) s.heap [] ls rfl ⟨hK, ?_, ?_, va_S.rf, hl⟩
  · intro y c1 s1 ad H locs ls hE ha hI
    obtain ⟨pc, lv, st, w2⟩ := y
    obtain ⟨h1, h2, h3, rfl, rfl⟩ := hE
    dsimp only at h1 h2 h3 hI ⊢
    subst h2
    subst h3
    exact W.vret X.1.1 X.1.2.1 (X.1.2.2.1.trans hret) (fun t ht hW => ⟨⟨ad, ha, rfl, by rw [ht]; exact hI.2.1, hI.2.2.1⟩, hI.2.2.2.1.F ht⟩) hI.2.2.2.1.2.2 h1
  · show va_P D vwCl (gw (fun _ => a) cA [(0, .inr (ci, fs))]) s.heap
    rw [ew]
    exact hP
  · show va_D A (gw (fun _ => a) cA [(0, .inr (ci, fs))])
    rw [ew]
    exact hD
/-- the caller's numbers of a callee's places: its object's, then the next free ones -/
def gsf (b n : Nat) : Nat → Nat
  | 0 => b
  | k + 1 => n + k
theorem gPn_blind {D : va_G} {a sz ci : Nat} {cA : Nat → ClassId} {fs as : List Value} : FrameBlind (va_Pc as (gPn D a cA sz ci fs)) := by
  intro a9 U g mk q
  obtain ⟨q0, q1, qP, qK, qN, qO⟩ := q
  refine ⟨q0, q1, qP, va_K.moved (u := U) (U := U.calling g mk a9) (Vm.Alike.refl U.vm) qK, fun z hz => ?_, va_AO.moved (u := U) (U := U.calling g mk a9) (Vm.Alike.refl U.vm) qO⟩
  exact va_Nw.same (u := U) (U := U.calling g mk a9) rfl rfl (qN z hz)
theorem gPn_start {D : va_G} {a ci : Nat} {cA : Nat → ClassId} {fs as : List Value} {s : State} {H : Heap} (hK : va_K D vwCl (gT cA) s) (hP : va_P D vwCl [(a, .inr (ci, fs))] H) (hN : gN s) (hO : va_AO RX6 s) : ∀ U : State, U.heap = H → s.WarmedH U.vm → va_Pc as (gPn D a cA H.size ci fs) as.toArray U := by
  intro U hU hW
  exact ⟨rfl, by rw [hU], by rw [hU]; exact hP, va_K.moved hW.alike hK, fun z hz => va_Nw.warmM hW (hN z hz), va_AO.moved hW.alike hO⟩
section GaCalls
variable {M M' : gM} {R R' : Room} {E : gS → Nat → Nat → Prop} {pc : Nat} {lv : List (Nat × Value)} {st : List Value} {w : gW} {cl sl : Nat} {av : List Value} {ci : Nat} {fs fs3 : List Value} {rest : gW}
theorem Ga.cn (n b i : Nat) (h0 : 0 < n) (hbn : b < n) (hb : gBel n lv st w) (hi : w[i]? = some (b, .inr (ci, fs))) (hav : av.all (gvb 0) = true) (hfs : fs.all (gvb 0) = true)
    (hrun : ∀ (p : Program) (l : Launch) (e : Env) (s : State) (m : MethodId) (args : Array Value) (below : List Frame) (meth : Method) (c : Code) (D : va_G) (cA : Nat → ClassId) (a : Nat) (H : Heap) (locs : List Loc) (ls : Array Slot) (st9 : List Value), gXi M p s m args meth c → va_K D vwCl (gT cA) s → va_P D vwCl [(a, .inr (ci, fs))] H → ls.size = M.2.2.1 → (st9.map fun v => v.category) = (st.map fun v => v.category) →
      ∃ a9, va_Run p l e R s m args below meth c H locs cl sl R'.cells R'.slots (F0 m pc ls (av.reverse ++ .ref a :: st9)) st9 (gQn D a cA (va_A [(a, .inr (ci, fs))] H.size) ((0, .inr (ci, fs3)) :: rest) a9) (va_A [(a, .inr (ci, fs))] H.size))
    (w1 : gW) (hw1 : w.set i (gren (gsf b n) (0, .inr (ci, fs3))) ++ rest.map (gren (gsf b n)) = w1) (k : Ga M R E (pc + 3, lv, st, w1) (cl + R'.cells) (sl + R'.slots)) : Ga M R E (pc, lv, av.reverse ++ .ref b :: st, w) cl sl := by
  subst hw1
  intro p l e s m args below meth c D cA A H0 a0 Qf X hA kE ad H locs ls ha hN
  obtain ⟨hK, hP, hD, hS, hl⟩ := hN
  have hi' : (gw ad cA w)[i]? = some (ad b, .inr (ci, fs)) := by
    have := gw_at (ad := ad) (cA := cA) hi
    rw [this]
    show some (ad b, Sum.inr (ci, fs.map (gv ad))) = _
    rw [gvs_nr hfs]
  have hPc : va_P D vwCl [(ad b, .inr (ci, fs))] H := by
    intro k q hq
    have hz : k < 1 := (List.getElem?_eq_some_iff.mp hq).1
    rw [show k = 0 by omega] at hq
    cases hq
    exact hP i _ hi'
  have hFc : ∀ q, va_A [(ad b, .inr (ci, fs))] H.size q → A q := by
    intro q h
    rcases h with ⟨k, e9, h⟩ | h
    · have hz : k < 1 := (List.getElem?_eq_some_iff.mp h).1
      rw [show k = 0 by omega] at h
      cases h
      exact hD.2 i _ hi'
    · exact hA q (Nat.le_trans hS.1 h)
  have est : (av.reverse ++ Value.ref b :: st).map (gv ad) = av.reverse ++ .ref (ad b) :: st.map (gv ad) := by
    rw [List.map_append, List.map_reverse, gvs_nr hav]
    rfl
  obtain ⟨a9, hr⟩ := hrun p l e s m args below meth c D cA (ad b) H locs ls (st.map (gv ad)) X hK hPc hl.1 (gst_cat ad st)
  show W p l e R s m args below meth c H locs cl sl Qf (F0 m pc ls ((av.reverse ++ Value.ref b :: st).map (gv ad)))
  rw [est]
  intro T hT XT
  obtain ⟨v, st₀, t, T', L, h00, X', hL, e1, e2, ⟨⟨ad', had, hv, hP1, hD1⟩, hz, hk⟩, stp⟩ := hr T hT XT
  cases hv
  rw [h00] at hz hk
  have hS' : va_S A H0 T'.heap (locs ++ L) := ⟨Nat.le_trans hS.1 (by rw [e1]; exact hz), fun q h1 h2 => by rw [e1, hk q (Nat.lt_of_lt_of_le h1 hS.1) (fun z => h2 (hFc q z))]; exact hS.2.1 q h1 h2, fun q hq => by
      rcases List.mem_append.mp hq with h | h
      · exact hS.2.2 q h
      · exact hFc _ (hL q h)⟩
  have e3 : gw ad' cA ((0, .inr (ci, fs3)) :: rest) = (ad b, .inr (ci, fs3.map (gv ad'))) :: gw ad' cA rest := by
    show (ad' 0, Sum.inr (ci, fs3.map (gv ad'))) :: gw ad' cA rest = _
    rw [had]
  rw [e3] at hP1 hD1
  obtain ⟨j1, j2⟩ := gJoin (H1 := T'.heap) hP hD hi' (fun q h1 h2 => by rw [e1]; exact hk q h1 h2) hFc (by rw [e1]; exact hP1) hD1
  obtain ⟨ad2, hr2, hag⟩ : ∃ ad2 : Nat → Nat, (∀ k, ad2 (gsf b n k) = ad' k) ∧ (∀ k, k < n → ad2 k = ad k) := by
    refine ⟨fun j => if j < n then ad j else ad' (j - n + 1), fun k => ?_, fun k hk => if_pos hk⟩
    cases k with
    | zero =>
      show (if b < n then ad b else _) = ad' 0
      rw [if_pos hbn, had]
    | succ k =>
      show (if n + k < n then _ else ad' (n + k - n + 1)) = ad' (k + 1)
      rw [if_neg (by omega), show n + k - n + 1 = k + 1 by omega]
  have hfun : (fun k => ad2 (gsf b n k)) = ad' := funext hr2
  have e4 : gw ad2 cA (w.set i (gren (gsf b n) (0, .inr (ci, fs3))) ++ rest.map (gren (gsf b n))) = (gw ad cA w).set i (ad b, .inr (ci, fs3.map (gv ad'))) ++ gw ad' cA rest := by
    rw [gw_app, ← gw_ren, hfun]
    congr 1
    have e5 : gren (gsf b n) (0, .inr (ci, fs3)) = (b, .inr (ci, fs3.map (gv (gsf b n)))) := rfl
    rw [e5, gw_set, gw_cong cA hag w hb.2.2.1 hb.2.2.2, hag b hbn]
    show (gw ad cA w).set i (ad b, Sum.inr (ci, (fs3.map (gv (gsf b n))).map (gv ad2))) = _
    rw [← gvs_comp, hfun]
  have e6 : st.map (gv ad2) = st.map (gv ad) := gvs_cong hag hb.2.1
  obtain ⟨t2, a1, b1⟩ := k p l e s m args below meth c D cA A H0 a0 Qf X hA kE ad2 T'.heap (locs ++ L) ls (by rw [hag 0 h0]; exact ha) ⟨hK, by rw [e4]; exact j1, by rw [e4]; exact j2, hS', by rw [gl_cong hag hb.1]; exact hl⟩ T' rfl X'
  refine ⟨t2, stp t2 ?_, b1⟩
  dsimp only at a1
  rw [e6] at a1
  exact a1
/-- how a constructor is linked -/
def gLI (own : String) (idx : Nat) (M : gM) (n : Nat) : Prop := Cond.methodLink own idx M.1 ∈ gTB ∧ Cond.instanceMethod M.1 ∈ gTB ∧ Cond.initialized M.1.cls ∈ gTB ∧ Cond.code M.1 M.2.1 M.2.2.1 M.2.2.2 ∈ gTB ∧ gNoMH M.1 n
def gLJ (own : String) (idx : Nat) (host : String) (M : gM) (n : Nat) : Prop := (own, idx, M.1, host) ∈ gNest ∧ Cond.instanceMethod M.1 ∈ gTB ∧ Cond.initialized M.1.cls ∈ gTB ∧ Cond.code M.1 M.2.1 M.2.2.1 M.2.2.2 ∈ gTB ∧ gNoMH M.1 n
theorem gws_good {M : gM} (h : Cond.code M.1 M.2.1 M.2.2.1 M.2.2.2 ∈ gTB) : GoodIn gTB (gws M) := gGood (fun w hw => by
  simp only [gws, List.mem_cons] at hw
  rcases hw with rfl | hw
  · exact h
  · exact hw)
theorem Ga.callI {idx na : Nat} (hC : Cn M' R' av ci fs fs3 rest) (hL : gLI M.1.cls idx M' na) (hini : M'.1.name = "<init>") (hret : M'.2.2.2 = none) (n b i : Nat) (h0 : 0 < n) (hbn : b < n) (hb : gBel n lv st w) (hi : w[i]? = some (b, .inr (ci, fs))) (hav : av.all (gvb 0) = true) (hfs : fs.all (gvb 0) = true) (hn : av.length = na) (hR : R'.frames + 1 ≤ R.frames ∧ 8 + (M'.2.2.1 + 11) + R'.locals ≤ R.locals) (hW : (st.map fun v => v.category).sum ≤ 8) (hc : cl + R'.cells ≤ R.cells) (hs : sl + R'.slots ≤ R.slots) (hd : decode M.2.1 pc = .ok (.invokespecial idx, 3)) {st0 : List Value} (hst : st0 = av.reverse ++ .ref b :: st) (w1 : gW) (hw1 : w.set i (gren (gsf b n) (0, .inr (ci, fs3))) ++ rest.map (gren (gsf b n)) = w1) (k : Ga M R E (pc + 3, lv, st, w1) (cl + R'.cells) (sl + R'.slots)) : Ga M R E (pc, lv, st0, w) cl sl := by
  subst hst
  obtain ⟨l1, l2, l3, l4, l5⟩ := hL
  refine Ga.cn (R' := R') (fs3 := fs3) (rest := rest) n b i h0 hbn hb hi hav hfs (fun p l e s m args below meth c D cA a H locs ls st9 X hK hP hls hcat => ?_) w1 hw1 k
  have hT := X.1.2.2.2.2.2.1
  have hgw : gws M' = Cond.code M'.1 M'.2.1 M'.2.2.1 none :: gTB := by
    unfold gws
    rw [hret]
  refine ⟨_, va_runI (As := av) (b := a) (n := na) (Ts := gTB) (ws := gws M') ⟨X.1.1, X.1.2.1, X.1.2.2.2.1, X.1.2.2.2.2.1, hT⟩ (hC l D a cA H.size) (cwI na hT (gws_good l4) hgw rfl rfl (hT _ l3) (hT _ l1) (hT _ l2) hini l5 hR) ⟨gPn_blind, gPn_start hK hP X.1.2.2.2.2.2.2.2 X.2.2⟩ rfl hn hls rfl (lv_room (by rw [hcat]; exact hW)) hd ⟨hc, hs⟩⟩
theorem Ga.callJ {idx na : Nat} {host : String} (hC : Cn M' R' av ci fs fs3 rest) (hL : gLJ M.1.cls idx host M' na) (hini : M'.1.name = "<init>") (hret : M'.2.2.2 = none) (n b i : Nat) (h0 : 0 < n) (hbn : b < n) (hb : gBel n lv st w) (hi : w[i]? = some (b, .inr (ci, fs))) (hav : av.all (gvb 0) = true) (hfs : fs.all (gvb 0) = true) (hn : av.length = na) (hR : R'.frames + 1 ≤ R.frames ∧ 8 + (M'.2.2.1 + 11) + R'.locals ≤ R.locals) (hW : (st.map fun v => v.category).sum ≤ 8) (hc : cl + R'.cells ≤ R.cells) (hs : sl + R'.slots ≤ R.slots) (hd : decode M.2.1 pc = .ok (.invokespecial idx, 3)) {st0 : List Value} (hst : st0 = av.reverse ++ .ref b :: st) (w1 : gW) (hw1 : w.set i (gren (gsf b n) (0, .inr (ci, fs3))) ++ rest.map (gren (gsf b n)) = w1) (k : Ga M R E (pc + 3, lv, st, w1) (cl + R'.cells) (sl + R'.slots)) : Ga M R E (pc, lv, st0, w) cl sl := by
  subst hst
  obtain ⟨l1, l2, l3, l4, l5⟩ := hL
  refine Ga.cn (R' := R') (fs3 := fs3) (rest := rest) n b i h0 hbn hb hi hav hfs (fun p l e s m args below meth c D cA a H locs ls st9 X hK hP hls hcat => ?_) w1 hw1 k
  have hT := X.1.2.2.2.2.2.1
  have hgw : gws M' = Cond.code M'.1 M'.2.1 M'.2.2.1 none :: gTB := by
    unfold gws
    rw [hret]
  refine ⟨_, va_runIN (host := host) (As := av) (b := a) (n := na) (Ts := gTB) (ws := gws M') ⟨X.1.1, X.1.2.1, X.1.2.2.2.1, X.1.2.2.2.2.1, hT⟩ (hC l D a cA H.size) ⟨va_cnB na hT (gws_good l4) hgw rfl rfl (X.1.2.2.2.2.2.2.2 _ l1) (hT _ l3) l5 hR, hini, hT _ l2⟩ ⟨gPn_blind, gPn_start hK hP X.1.2.2.2.2.2.2.2 X.2.2⟩ rfl hn hls rfl (lv_room (by rw [hcat]; exact hW)) hd ⟨hc, hs⟩⟩
end GaCalls
