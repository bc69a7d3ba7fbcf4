/-! Calls: the callee's cells are cut out of the caller's world by their places, under the callee's own numbers. -/
def gren (r : Nat → Nat) (q : Nat × gE) : Nat × gE := (r q.1, match q.2 with
  | .inl (t, a) => .inl (t, gA r a)
  | .inr (ci, vs) => .inr (ci, vs.map (gv r)))
theorem gv_comp (ad r : Nat → Nat) (v : Value) : gv (fun k => ad (r k)) v = gv ad (gv r v) := by
  cases v <;> rfl
theorem gA_comp (ad r : Nat → Nat) (a : vp_A) : gA (fun k => ad (r k)) a = gA ad (gA r a) := by
  obtain ⟨n, f | f | f | f | f⟩ := a <;> try rfl
  simp [gA, Function.comp_def]
theorem gq_ren (ad r : Nat → Nat) (cA : Nat → ClassId) (q : Nat × gE) : gq (fun k => ad (r k)) cA q = gq ad cA (gren r q) := by
  obtain ⟨k, ⟨t, a⟩ | ⟨ci, vs⟩⟩ := q
  · simp only [gq, gren, gC, gA_comp]
  · simp only [gq, gren, gC, List.map_map]
    congr 3
    apply List.map_congr_left
    intro v _
    exact gv_comp ad r v
theorem gw_ren (ad r : Nat → Nat) (cA : Nat → ClassId) (w : gW) : gw (fun k => ad (r k)) cA w = gw ad cA (w.map (gren r)) := by
  unfold gw
  rw [List.map_map]
  apply List.map_congr_left
  intro q _
  exact gq_ren ad r cA q
theorem gvs_comp (ad r : Nat → Nat) (vs : List Value) : vs.map (gv (fun k => ad (r k))) = (vs.map (gv r)).map (gv ad) := by
  rw [List.map_map]
  apply List.map_congr_left
  intro v _
  exact gv_comp ad r v
def gput : gW → List Nat → gW → gW
  | w, i :: is, q :: qs => gput (w.set i q) is qs
  | w, _, _ => w
theorem gput_get : ∀ (is : List Nat) (qs w : gW), is.length = qs.length → ∀ (k : Nat) (q : Nat × gE), (gput w is qs)[k]? = some q → (k ∉ is ∧ w[k]? = some q) ∨ ∃ j : Nat, is[j]? = some k ∧ qs[j]? = some q
  | [], [], w, _, k, q, h => Or.inl ⟨List.not_mem_nil, h⟩
  | i :: is, q0 :: qs, w, hl, k, q, h => by
    rcases gput_get is qs (w.set i q0) (by simpa using hl) k q h with ⟨h1, h2⟩ | ⟨j, h1, h2⟩
    · by_cases hk : i = k
      · subst hk
        have h3 : i < w.length := by
          have := (List.getElem?_eq_some_iff.mp h2).1
          simpa using this
        rw [List.getElem?_set_self h3] at h2
        exact Or.inr ⟨0, rfl, h2⟩
      · rw [List.getElem?_set_ne hk] at h2
        refine Or.inl ⟨?_, h2⟩
        intro h3
        rcases List.mem_cons.mp h3 with h3 | h3
        · exact hk h3.symm
        · exact h1 h3
    · exact Or.inr ⟨j + 1, h1, h2⟩
theorem gsub_at {w w2 : gW} {is : List Nat} {r : Nat → Nat} (hs : is.map (fun i => w[i]?) = (w2.map (gren r)).map some) {j : Nat} {q : Nat × gE} (hq : w2[j]? = some q) : ∃ i, is[j]? = some i ∧ w[i]? = some (gren r q) := by
  have h1 : (is.map (fun i => w[i]?))[j]? = some (some (gren r q)) := by
    rw [hs, List.getElem?_map, List.getElem?_map, hq]
    rfl
  rw [List.getElem?_map] at h1
  cases hi : is[j]? with
  | none => rw [hi] at h1; cases h1
  | some i => rw [hi] at h1; exact ⟨i, rfl, Option.some.inj h1⟩
theorem gsub_len {w w2 : gW} {is : List Nat} {r : Nat → Nat} (hs : is.map (fun i => w[i]?) = (w2.map (gren r)).map some) : is.length = w2.length := by
  have := congrArg List.length hs
  simpa using this
theorem gsub_conc {w w2 : gW} {is : List Nat} {r : Nat → Nat} (ad : Nat → Nat) (cA : Nat → ClassId) (hs : is.map (fun i => w[i]?) = (w2.map (gren r)).map some) : is.map (fun i => (gw ad cA w)[i]?) = (gw (fun k => ad (r k)) cA w2).map some := by
  rw [gw_ren ad r cA w2]
  have h1 : is.map (fun i => (gw ad cA w)[i]?) = (is.map (fun i => w[i]?)).map (Option.map (gq ad cA)) := by
    rw [List.map_map]
    apply List.map_congr_left
    intro i _
    simp [gw]
  rw [h1, hs]
  simp [gw]
theorem gP_join {D : va_G} {A0 : Nat → Prop} {ad r : Nat → Nat} {cA : Nat → ClassId} {w w2 w3 : gW} {is : List Nat} {H H1 : Heap} (hP : va_P D vwCl (gw ad cA w) H) (hD : va_D A0 (gw ad cA w)) (hs : is.map (fun i => w[i]?) = (w2.map (gren r)).map some) (hk3 : w3.map (fun q => q.1) = w2.map (fun q => q.1))
    (hk : ∀ q : Nat, q < H.size → ¬ va_A (gw (fun k => ad (r k)) cA w2) H.size q → H1[q]? = H[q]?) (hP1 : va_P D vwCl (gw (fun k => ad (r k)) cA w3) H1) : va_P D vwCl (gw ad cA (gput w is (w3.map (gren r)))) H1 ∧ va_D A0 (gw ad cA (gput w is (w3.map (gren r)))) := by
  have hl3 : w3.length = w2.length := by
    have := congrArg List.length hk3
    simpa using this
  have hlen : is.length = (w3.map (gren r)).length := by rw [List.length_map, hl3]; exact gsub_len hs
  -- every cell of the new world stands where a cell of the old one stood, at the same address
  have key : ∀ (k : Nat) (q : Nat × gE), (gput w is (w3.map (gren r)))[k]? = some q → (k ∉ is ∧ w[k]? = some q) ∨ ∃ (j : Nat) (q3 : Nat × gE), is[j]? = some k ∧ w3[j]? = some q3 ∧ q = gren r q3 ∧ ∃ e, w[k]? = some (q.1, e) := by
    intro k q h
    rcases gput_get is _ w hlen k q h with h1 | ⟨j, h1, h2⟩
    · exact Or.inl h1
    · rw [List.getElem?_map] at h2
      cases h3 : w3[j]? with
      | none => rw [h3] at h2; cases h2
      | some q3 =>
        rw [h3] at h2
        have e : gren r q3 = q := Option.some.inj h2
        have hj : (w2.map (fun q => q.1))[j]? = some q3.1 := by rw [← hk3, List.getElem?_map, h3]; rfl
        rw [List.getElem?_map] at hj
        cases h4 : w2[j]? with
        | none => rw [h4] at hj; cases hj
        | some q2 =>
          rw [h4] at hj
          have e2 : q2.1 = q3.1 := Option.some.inj hj
          obtain ⟨i, h5, h6⟩ := gsub_at hs h4
          rw [h1] at h5
          cases Option.some.inj h5
          refine Or.inr ⟨j, q3, h1, h3, e.symm, (gren r q2).2, ?_⟩
          rw [h6, ← e]
          show some (gren r q2) = some (r q3.1, (gren r q2).2)
          rw [← e2]
          rfl
  have keyA : ∀ (k : Nat) (q : Nat × va_E), (gw ad cA (gput w is (w3.map (gren r))))[k]? = some q → ∃ q0, (gw ad cA w)[k]? = some q0 ∧ q0.1 = q.1 := by
    intro k q h
    unfold gw at h
    rw [List.getElem?_map] at h
    cases h0 : (gput w is (w3.map (gren r)))[k]? with
    | none => rw [h0] at h; cases h
    | some q1 =>
      rw [h0] at h
      have e : gq ad cA q1 = q := Option.some.inj h
      rcases key k q1 h0 with ⟨-, h1⟩ | ⟨j, q3, -, -, -, e9, h1⟩
      · exact ⟨_, gw_at h1, by rw [← e]; rfl⟩
      · exact ⟨_, gw_at h1, by rw [← e]; rfl⟩
  refine ⟨?_, ?_⟩
  · intro k q h
    have h' := h
    unfold gw at h
    rw [List.getElem?_map] at h
    cases h0 : (gput w is (w3.map (gren r)))[k]? with
    | none => rw [h0] at h; cases h
    | some q1 =>
      rw [h0] at h
      have e : gq ad cA q1 = q := Option.some.inj h
      rcases key k q1 h0 with ⟨h2, h1⟩ | ⟨j, q3, h1, h2, h3, -⟩
      · have hat := hP k _ (gw_at (ad := ad) (cA := cA) h1)
        have eq1 : (ad q1.1, gC ad cA q1.2) = q := e
        rw [eq1] at hat
        refine hat.kept (hk q.1 hat.lt ?_)
        rintro (⟨j, e9, h9⟩ | h9)
        · have hc : (is.map (fun i => (gw ad cA w)[i]?))[j]? = some (some (q.1, e9)) := by rw [gsub_conc ad cA hs, List.getElem?_map, h9]; rfl
          rw [List.getElem?_map] at hc
          cases hi : is[j]? with
          | none => rw [hi] at hc; cases hc
          | some i =>
            rw [hi] at hc
            have h10 : (gw ad cA w)[i]? = some (q.1, e9) := Option.some.inj hc
            have h11 : (gw ad cA w)[k]? = some q := by rw [gw_at h1, ← eq1]
            have h12 := hD.1 k i q (q.1, e9) h11 h10 rfl
            subst h12
            exact h2 (List.mem_of_getElem? hi)
        · exact absurd hat.lt (Nat.not_lt.mpr h9)
      · have h4 : (gw (fun k => ad (r k)) cA w3)[j]? = some q := by
          unfold gw
          rw [List.getElem?_map, h2]
          show some (gq _ cA q3) = _
          rw [gq_ren, ← h3, e]
        exact hP1 j q h4
  · refine ⟨fun i j x y hi hj hxy => ?_, fun k q hk => ?_⟩
    · obtain ⟨x0, h1, h2⟩ := keyA i x hi
      obtain ⟨y0, h3, h4⟩ := keyA j y hj
      exact hD.1 i j x0 y0 h1 h3 (by rw [h2, h4]; exact hxy)
    · obtain ⟨q0, h1, h2⟩ := keyA k q hk
      rw [← h2]
      exact hD.2 k q0 h1
/-- a contract whose answer and world are told -/
def Cd (M : gM) (R : Room) (av : List Value) (w : gW) (r : Option Value) (w' : gW) : Prop := Ct M R av w (fun r' w2 => r' = r ∧ w2 = w')
theorem gTB_good : ∀ w ∈ gTB, (w.onTables && w.keeps) = true ∨ ∃ ty, w = .arrayClass ty := fun w h => good_of_word (List.mem_filter.mp h).2
theorem gGood {L : List Cond} (h : ∀ w ∈ L, w ∈ gTB) : GoodIn gTB L := fun w hw => ⟨h w hw, gTB_good w (h w hw)⟩
/-- how a call is linked: the words of it are in the tables -/
def gNoMH (y : MethodName) (n : Nat) : Prop := y.cls ≠ "java/lang/invoke/MethodHandle" ∧ y.cls ≠ "java/lang/invoke/VarHandle" ∧ (parseMethodDescriptor y.desc).map (fun d => d.parameters.length) = some n
def gLV (own : String) (idx : Nat) (C : String) (M : gM) (n : Nat) : Prop := Cond.methodLink own idx M.1 ∈ gTB ∧ Cond.instanceMethod M.1 ∈ gTB ∧ Cond.selects C M.1 M.1 ∈ gTB ∧ Cond.initialized C ∈ gTB ∧ Cond.code M.1 M.2.1 M.2.2.1 M.2.2.2 ∈ gTB ∧ M.1.cls = C ∧ gNoMH M.1 n
def gLU (own : String) (idx : Nat) (C : String) (x : MethodName) (M : gM) (n : Nat) : Prop := Cond.methodLink own idx x ∈ gTB ∧ Cond.sameMethod x.cls M.1.cls x.name x.desc ∈ gTB ∧ Cond.selects C x M.1 ∈ gTB ∧ Cond.instanceMethod M.1 ∈ gTB ∧ Cond.initialized M.1.cls ∈ gTB ∧ Cond.code M.1 M.2.1 M.2.2.1 M.2.2.2 ∈ gTB ∧ M.1 = ⟨M.1.cls, x.name, x.desc⟩ ∧ gNoMH M.1 n ∧ (parseMethodDescriptor x.desc).map (fun d => d.parameters.length) = some n
def gLS (own : String) (idx : Nat) (M : gM) (n : Nat) : Prop := Cond.methodLink own idx M.1 ∈ gTB ∧ Cond.static M.1 ∈ gTB ∧ Cond.initialized M.1.cls ∈ gTB ∧ Cond.code M.1 M.2.1 M.2.2.1 M.2.2.2 ∈ gTB ∧ gNoMH M.1 n
def gLN (own : String) (idx : Nat) (host : String) (M : gM) (n : Nat) : Prop := (own, idx, M.1, host) ∈ gNest ∧ Cond.static M.1 ∈ gTB ∧ Cond.initialized M.1.cls ∈ gTB ∧ Cond.code M.1 M.2.1 M.2.2.1 M.2.2.2 ∈ gTB ∧ gNoMH M.1 n
/-- the callee's room fits -/
def gRoom (R R' : Room) (nL : Nat) : Prop := R'.cells = 0 ∧ R'.slots = 0 ∧ R'.frames + 1 ≤ R.frames ∧ 8 + (nL + 11) + R'.locals ≤ R.locals
section Calls
variable {M M' : gM} {R R' : Room} {E : gS → Prop} {pc : Nat} {lv : List (Nat × Value)} {st : List Value} {w w2 w3 : gW} {av : List Value} {rr : Option Value} {idx n : Nat}
theorem gPc_blind {D : va_G} {ad : Nat → Nat} {cA : Nat → ClassId} {sz : Nat} {as : List Value} : FrameBlind (va_Pc as (fun U => U.heap.size = sz ∧ va_P D vwCl (gw ad cA w) U.heap ∧ va_K D vwCl (gT cA) U ∧ va_D (fun _ => True) (gw ad cA w) ∧ gN U)) := by
  intro a U g mk q
  obtain ⟨q0, q1, qP, qK, qD, qN⟩ := q
  refine ⟨q0, q1, qP, va_K.moved (u := U) (U := U.calling g mk a) (Vm.Alike.refl U.vm) qK, qD, fun z hz => ?_⟩
  exact va_Nw.same (u := U) (U := U.calling g mk a) rfl rfl (qN z hz)
theorem gx_call {r : Nat → Nat} {is : List Nat} (hs : is.map (fun i => w[i]?) = (w2.map (gren r)).map some) (hnd : va_nd is = true) (hk3 : w3.map (fun q => q.1) = w2.map (fun q => q.1)) (st0 : List Value)
    (hrun : ∀ (p : Program) (l : Launch) (e : Env) (s : State) (m : MethodId) (args : Array Value) (below : List Frame) (meth : Method) (c : Code) (D : va_G) (ad : Nat → Nat) (cA : Nat → ClassId) (cl sl : Nat) (H : Heap) (locs : List Loc) (ls : Array Slot), gX M p s m args meth c → cl ≤ R.cells → sl ≤ R.slots → va_K D vwCl (gT cA) s → va_P D vwCl (gw (fun k => ad (r k)) cA w2) H → va_D (fun _ => True) (gw (fun k => ad (r k)) cA w2) → ls.size = M.2.2.1 →
      ∃ a, va_Run p l e R s m args below meth c H locs cl sl 0 0 (F0 m pc ls (st0.map (gv ad))) (st.map (gv ad)) (gQ D (fun k => ad (r k)) cA (va_A (gw (fun k => ad (r k)) cA w2) H.size) (fun r' w' => r' = rr ∧ w' = w3) a) (va_A (gw (fun k => ad (r k)) cA w2) H.size))
    (k : Go M R E (pc + 3, lv, (rr.map (gv r)).toList ++ st, gput w is (w3.map (gren r)))) : Go M R E (pc, lv, st0, w) := by
  intro p l e s m args below meth c D ad cA A H0 cl sl Qf X hc hsl hA kE H locs ls hN
  obtain ⟨hK, hP, hD, hS, hl⟩ := hN
  have hconc := gsub_conc ad cA hs
  have hPc : va_P D vwCl (gw (fun k => ad (r k)) cA w2) H := by
    intro k q hq
    have h1 : (is.map (fun i => (gw ad cA w)[i]?))[k]? = some (some q) := by rw [hconc, List.getElem?_map, hq]; rfl
    rw [List.getElem?_map] at h1
    cases hi : is[k]? with
    | none => rw [hi] at h1; cases h1
    | some i => rw [hi] at h1; exact hP i q (Option.some.inj h1)
  have hDc := hD.sub is hnd hconc
  have hFc := va_free hD hS hA is hconc
  obtain ⟨a, hr⟩ := hrun p l e s m args below meth c D ad cA cl sl H locs ls X hc hsl hK hPc (hDc.weaken (fun _ _ _ _ => trivial)) hl.1
  intro T hT XT
  obtain ⟨v, st₀, t, T', L, h0, X', hL, e1, e2, ⟨⟨r1, w1, hv, ⟨q1, q2⟩, hP1, hK1, hD1⟩, hz, hk⟩, stp⟩ := hr T hT XT
  rw [q1] at hv
  rw [q2] at hP1 hD1
  cases hv
  rw [h0] at hz hk
  have hS' : va_S A H0 T'.heap (locs ++ L) := ⟨Nat.le_trans hS.1 (by rw [e1]; exact hz), fun q h1 h2 => by rw [e1, hk q (Nat.lt_of_lt_of_le h1 hS.1) (fun z => h2 (hFc q z))]; exact hS.2.1 q h1 h2, fun q hq => by
      rcases List.mem_append.mp hq with h | h
      · exact hS.2.2 q h
      · exact hFc _ (hL q h)⟩
  obtain ⟨j1, j2⟩ := gP_join (H1 := T'.heap) hP hD hs hk3 (fun q h1 h2 => by rw [e1]; exact hk q h1 h2) (by rw [e1]; exact hP1)
  obtain ⟨t2, a1, b1⟩ := k p l e s m args below meth c D ad cA A H0 cl sl Qf X hc hsl hA kE T'.heap (locs ++ L) ls ⟨hK, j1, j2, hS', hl⟩ T' rfl X'
  refine ⟨t2, stp t2 ?_, b1⟩
  have e9 : ((rr.map (gv r)).toList ++ st).map (gv ad) = (rr.map (gv (fun k => ad (r k)))).toList ++ st.map (gv ad) := by
    cases rr with
    | none => rfl
    | some u =>
      simp only [Option.map, Option.toList, List.map_append, List.map]
      rw [gv_comp ad r u]
  rw [e9] at a1
  exact a1
theorem gRoom.go {nL : Nat} (h : gRoom R R' nL) {cl sl : Nat} (hc : cl ≤ R.cells) (hs : sl ≤ R.slots) : cl + 0 ≤ R.cells ∧ sl + 0 ≤ R.slots := ⟨hc, hs⟩
theorem gst_cat (ad : Nat → Nat) (st : List Value) : ((st.map (gv ad)).map fun v => v.category) = st.map fun v => v.category := by
  rw [List.map_map]
  apply List.map_congr_left
  intro v _
  exact gv_cat ad v
/-- a static call -/
theorem Go.callS (hC : Cd M' R' av w2 rr w3) (hL : gLS M.1.cls idx M' n) (r : Nat → Nat) (is : List Nat) (hs : is.map (fun i => w[i]?) = (w2.map (gren r)).map some) (hnd : va_nd is = true) (hk3 : w3.map (fun q => q.1) = w2.map (fun q => q.1)) (hn : av.length = n) (hR : gRoom R R' M'.2.2.1) (hW : (st.map fun v => v.category).sum ≤ 8) (hd : decode M.2.1 pc = .ok (.invokestatic idx, 3)) (k : Go M R E (pc + 3, lv, (rr.map (gv r)).toList ++ st, gput w is (w3.map (gren r)))) : Go M R E (pc, lv, (av.map (gv r)).reverse ++ st, w) := by
  obtain ⟨l1, l2, l3, l4, l5⟩ := hL
  refine gx_call (rr := rr) hs hnd hk3 _ (fun p l e s m args below meth c D ad cA cl sl H locs ls X hc hsl hK hP hD hls => ?_) k
  refine ⟨_, va_runS (As := av.map (gv (fun k => ad (r k)))) (n := n) (Ts := gTB) ⟨X.1, X.2.1, X.2.2.2.1, X.2.2.2.2.1, X.2.2.2.2.2.1⟩ (hC l D (fun k => ad (r k)) cA H.size) (va_cwS n X.2.2.2.2.2.1 (gGood ?_) rfl hR.1 hR.2.1 l5 hR.2.2) ⟨gPc_blind, fun U hU hW => ⟨rfl, by rw [hU], by rw [hU]; exact hP, va_K.moved hW.alike hK, hD, fun z hz => va_Nw.warmM hW (X.2.2.2.2.2.2.2 z hz)⟩⟩ rfl (by rw [List.length_map]; exact hn) hls ?_ (lv_room (by rw [gst_cat]; exact hW)) hd ⟨hc, hsl⟩⟩
  · intro w hw
    simp only [va_wsS, gws, List.cons_append, List.nil_append, List.mem_cons] at hw
    rcases hw with rfl | rfl | rfl | rfl | hw
    · exact l1
    · exact l2
    · exact l3
    · exact l4
    · exact hw
  · show ((av.map (gv r)).reverse ++ st).map (gv ad) = _
    rw [List.map_append, List.map_reverse, ← gvs_comp]
/-- a call of a method of the receiver's own class -/
theorem Go.callV {b ci : Nat} {fs : List Value} (hC : Cd M' R' (.ref b :: av) w2 rr w3) {C : String} (hL : gLV M.1.cls idx C M' n) {T : u_T} {N : Nat} (j : Nat) (hb : w2[j]? = some (b, .inr (ci, fs))) (hci : vwCl[ci]? = some (C, T, N)) (r : Nat → Nat) (is : List Nat) (hs : is.map (fun i => w[i]?) = (w2.map (gren r)).map some) (hnd : va_nd is = true) (hk3 : w3.map (fun q => q.1) = w2.map (fun q => q.1)) (hn : av.length = n) (hR : gRoom R R' M'.2.2.1) (hW : (st.map fun v => v.category).sum ≤ 8) (hd : decode M.2.1 pc = .ok (.invokevirtual idx, 3)) (k : Go M R E (pc + 3, lv, (rr.map (gv r)).toList ++ st, gput w is (w3.map (gren r)))) : Go M R E (pc, lv, (av.map (gv r)).reverse ++ .ref (r b) :: st, w) := by
  obtain ⟨l1, l2, l3, l4, l5, l6, l7⟩ := hL
  refine gx_call (rr := rr) hs hnd hk3 _ (fun p l e s m args below meth c D ad cA cl sl H locs ls X hc hsl hK hP hD hls => ?_) k
  refine ⟨_, va_runV (As := av.map (gv (fun k => ad (r k)))) (b := ad (r b)) (n := n) (Ts := gTB) ⟨X.1, X.2.1, X.2.2.2.1, X.2.2.2.2.1, X.2.2.2.2.2.1⟩ (hC l D (fun k => ad (r k)) cA H.size) (cwV n X.2.2.2.2.2.1 (gGood ?_) rfl hR.1 hR.2.1 ⟨l6, l7⟩ hR.2.2) ⟨gPc_blind, va_recv hK hP hci (gw_at hb), fun U hU hW => ⟨rfl, by rw [hU], by rw [hU]; exact hP, va_K.moved hW.alike hK, hD, fun z hz => va_Nw.warmM hW (X.2.2.2.2.2.2.2 z hz)⟩⟩ rfl (by rw [List.length_map]; exact hn) hls ?_ (lv_room (by rw [gst_cat]; exact hW)) hd ⟨hc, hsl⟩⟩
  · intro w hw
    simp only [wsV, gws, List.cons_append, List.nil_append, List.mem_cons] at hw
    rcases hw with rfl | rfl | rfl | rfl | rfl | hw
    · exact l1
    · exact l2
    · exact l3
    · exact l4
    · exact l5
    · exact hw
  · show ((av.map (gv r)).reverse ++ .ref (r b) :: st).map (gv ad) = _
    rw [List.map_append, List.map_reverse, ← gvs_comp]
    rfl
/-- a call of a method that the receiver's class has from above -/
theorem Go.callU {b ci : Nat} {fs : List Value} (hC : Cd M' R' (.ref b :: av) w2 rr w3) {C : String} {x : MethodName} (hL : gLU M.1.cls idx C x M' n) {T : u_T} {N : Nat} (j : Nat) (hb : w2[j]? = some (b, .inr (ci, fs))) (hci : vwCl[ci]? = some (C, T, N)) (r : Nat → Nat) (is : List Nat) (hs : is.map (fun i => w[i]?) = (w2.map (gren r)).map some) (hnd : va_nd is = true) (hk3 : w3.map (fun q => q.1) = w2.map (fun q => q.1)) (hn : av.length = n) (hR : gRoom R R' M'.2.2.1) (hW : (st.map fun v => v.category).sum ≤ 8) (hd : decode M.2.1 pc = .ok (.invokevirtual idx, 3)) (k : Go M R E (pc + 3, lv, (rr.map (gv r)).toList ++ st, gput w is (w3.map (gren r)))) : Go M R E (pc, lv, (av.map (gv r)).reverse ++ .ref (r b) :: st, w) := by
  obtain ⟨l1, l2, l3, l4, l5, l6, l7, l8, l9⟩ := hL
  refine gx_call (rr := rr) hs hnd hk3 _ (fun p l e s m args below meth c D ad cA cl sl H locs ls X hc hsl hK hP hD hls => ?_) k
  refine ⟨_, va_runU (As := av.map (gv (fun k => ad (r k)))) (b := ad (r b)) (n := n) (Ts := gTB) ⟨X.1, X.2.1, X.2.2.2.1, X.2.2.2.2.1, X.2.2.2.2.2.1⟩ (hC l D (fun k => ad (r k)) cA H.size) (va_cwU (owner := M'.1.cls) n X.2.2.2.2.2.1 (gGood ?_) rfl hR.1 hR.2.1 l7 ⟨l8.1, l8.2.1, l9⟩ hR.2.2) ⟨gPc_blind, va_recv hK hP hci (gw_at hb), fun U hU hW => ⟨rfl, by rw [hU], by rw [hU]; exact hP, va_K.moved hW.alike hK, hD, fun z hz => va_Nw.warmM hW (X.2.2.2.2.2.2.2 z hz)⟩⟩ rfl (by rw [List.length_map]; exact hn) hls ?_ (lv_room (by rw [gst_cat]; exact hW)) hd ⟨hc, hsl⟩⟩
  · intro w hw
    simp only [va_wsU, gws, List.cons_append, List.nil_append, List.mem_cons] at hw
    rcases hw with rfl | rfl | rfl | rfl | rfl | rfl | hw
    · exact l1
    · exact l2
    · exact l3
    · exact l4
    · exact l5
    · exact l6
    · exact hw
  · show ((av.map (gv r)).reverse ++ .ref (r b) :: st).map (gv ad) = _
    rw [List.map_append, List.map_reverse, ← gvs_comp]
    rfl
/-- a static call of a private method of a nest mate -/
theorem Go.callN (hC : Cd M' R' av w2 rr w3) {host : String} (hL : gLN M.1.cls idx host M' n) (r : Nat → Nat) (is : List Nat) (hs : is.map (fun i => w[i]?) = (w2.map (gren r)).map some) (hnd : va_nd is = true) (hk3 : w3.map (fun q => q.1) = w2.map (fun q => q.1)) (hn : av.length = n) (hR : gRoom R R' M'.2.2.1) (hW : (st.map fun v => v.category).sum ≤ 8) (hd : decode M.2.1 pc = .ok (.invokestatic idx, 3)) (k : Go M R E (pc + 3, lv, (rr.map (gv r)).toList ++ st, gput w is (w3.map (gren r)))) : Go M R E (pc, lv, (av.map (gv r)).reverse ++ st, w) := by
  obtain ⟨l1, l2, l3, l4, l5⟩ := hL
  refine gx_call (rr := rr) hs hnd hk3 _ (fun p l e s m args below meth c D ad cA cl sl H locs ls X hc hsl hK hP hD hls => ?_) k
  refine ⟨_, va_runSN (host := host) (As := av.map (gv (fun k => ad (r k)))) (n := n) (Ts := gTB) ⟨X.1, X.2.1, X.2.2.2.1, X.2.2.2.2.1, X.2.2.2.2.2.1⟩ (hC l D (fun k => ad (r k)) cA H.size) ⟨va_cnB n X.2.2.2.2.2.1 (gGood ?_) rfl hR.1 hR.2.1 (X.2.2.2.2.2.2.2 _ l1) (X.2.2.2.2.2.1 _ l3) l5 hR.2.2, X.2.2.2.2.2.1 _ l2, trivial⟩ ⟨gPc_blind, fun U hU hW => ⟨rfl, by rw [hU], by rw [hU]; exact hP, va_K.moved hW.alike hK, hD, fun z hz => va_Nw.warmM hW (X.2.2.2.2.2.2.2 z hz)⟩⟩ rfl (by rw [List.length_map]; exact hn) hls ?_ (lv_room (by rw [gst_cat]; exact hW)) hd ⟨hc, hsl⟩⟩
  · intro w hw
    simp only [gws, List.mem_cons] at hw
    rcases hw with rfl | hw
    · exact l4
    · exact hw
  · show ((av.map (gv r)).reverse ++ st).map (gv ad) = _
    rw [List.map_append, List.map_reverse, ← gvs_comp]
end Calls
