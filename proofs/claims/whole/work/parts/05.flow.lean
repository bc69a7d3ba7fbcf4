/-! Stretches, branches, ends, contracts, calls. -/
def prun (I : gI) (nL : Nat) : List (Nat × Instr) → gS → Option (gS × List Prop)
  | [], x => some (x, [])
  | b :: B, x => bif x.1 == b.1 then (match g2 I nL b.2 x.1 x.2.1 x.2.2.1 x.2.2.2 with
    | none => none
    | some (y, cs) => match prun I nL B y with
      | none => none
      | some (z, ds) => some (z, cs ++ ds)) else none
def gDec (cc : ByteArray) (B : List (Nat × Instr)) : Prop := ∀ b ∈ B, decode cc b.1 = .ok (b.2, glen b.2)
theorem gAll_app : ∀ {a b : List Prop}, gAll (a ++ b) → gAll a ∧ gAll b
  | [], _, h => ⟨trivial, h⟩
  | _ :: _, _, h => ⟨⟨h.1, (gAll_app h.2).1⟩, (gAll_app h.2).2⟩
section Flow
variable {M : gM} {R : Room} {E : gS → Prop} {pc : Nat} {lv : List (Nat × Value)} {st : List Value} {w : gW}
theorem prun_sound {I : gI} (hI : gIok M.1.cls I) : ∀ (B : List (Nat × Instr)) {x y : gS} {cs : List Prop}, gDec M.2.1 B → prun I M.2.2.1 B x = some (y, cs) → gAll cs → Go M R E y → Go M R E x
  | [], x, y, cs, _, h, _, k => by
    cases h
    exact k
  | b :: B, x, y, cs, hd, h, hc, k => by
    unfold prun at h
    by_cases hb : x.1 = b.1
    · have hb2 : (x.1 == b.1) = true := by simpa using hb
      rw [hb2] at h
      simp only [cond_true] at h
      split at h
      · cases h
      · rename_i y1 cs1 h1
        split at h
        · cases h
        · rename_i z ds h2
          cases h
          obtain ⟨c1, c2⟩ := gAll_app hc
          obtain ⟨pc, lv, st, w⟩ := x
          refine g2_sound hI h1 ?_ c1 (prun_sound hI B (fun b hb => hd b (List.mem_cons_of_mem _ hb)) h2 c2 k)
          have h3 := hd b List.mem_cons_self
          have hb : pc = b.1 := hb
          rw [hb]
          exact h3
    · have hb2 : (x.1 == b.1) = false := by simpa using hb
      rw [hb2] at h
      cases h
/-- a stretch of n instructions from the i-th on -/
theorem Go.run {I : gI} {L : List (Nat × Instr)} (hd : gDec M.2.1 L) (hI : gIok M.1.cls I) (i n : Nat) {x : gS} (y : gS) (cs : List Prop) (h : prun I M.2.2.1 ((L.drop i).take n) x = some (y, cs)) (hc : gAll cs) (k : Go M R E y) : Go M R E x :=
  prun_sound hI _ (fun b hb => hd b (List.mem_of_mem_drop (List.mem_of_mem_take hb))) h hc k
/-- the decoded instruction at the i-th place -/
theorem gDec.at {cc : ByteArray} {L : List (Nat × Instr)} (hd : gDec cc L) (i : Nat) {b : Nat × Instr} (h : L[i]? = some b) : decode cc b.1 = .ok (b.2, glen b.2) := hd b (List.mem_of_getElem? h)
theorem gx_br {P : Prop} [Decidable P] {tgt pc' : Nat} {st' : List Value} (hstep : ∀ (p : Program) (l : Launch) (e : Env) (s : State) (m : MethodId) (args : Array Value) (below : List Frame) (meth : Method) (c : Code) (ad : Nat → Nat) (cl sl : Nat) (Qf : State → Prop) (H : Heap) (locs : List Loc) (ls : Array Slot), gX M p s m args meth c → (P → W p l e R s m args below meth c H locs cl sl Qf (F0 m tgt ls (st'.map (gv ad)))) → (¬ P → W p l e R s m args below meth c H locs cl sl Qf (F0 m pc' ls (st'.map (gv ad)))) → W p l e R s m args below meth c H locs cl sl Qf (F0 m pc ls (st.map (gv ad)))) (kt : P → Go M R E (tgt, lv, st', w)) (kf : ¬ P → Go M R E (pc', lv, st', w)) : Go M R E (pc, lv, st, w) := by
  intro p l e s m args below meth c D ad cA A H0 cl sl Qf X hc hs hA kE H locs ls hI
  exact hstep p l e s m args below meth c ad cl sl Qf H locs ls X (fun h => kt h p l e s m args below meth c D ad cA A H0 cl sl Qf X hc hs hA kE H locs ls hI) (fun h => kf h p l e s m args below meth c D ad cA A H0 cl sl Qf X hc hs hA kE H locs ls hI)
theorem Go.if_eq {x : Int32} {off : Int} (tgt : Nat) (hd : decode M.2.1 pc = .ok (.ifCond .eq off, 3)) (ht : (pc : Int) + off = (tgt : Int)) (kt : x = 0 → Go M R E (tgt, lv, st, w)) (kf : ¬ x = 0 → Go M R E (pc + 3, lv, st, w)) : Go M R E (pc, lv, .int x :: st, w) :=
  gx_br (fun p l e s m args below meth c ad cl sl Qf H locs ls X a b => lv_if_eq X.1 X.2.1 hd ht a b) kt kf
theorem Go.if_ne {x : Int32} {off : Int} (tgt : Nat) (hd : decode M.2.1 pc = .ok (.ifCond .ne off, 3)) (ht : (pc : Int) + off = (tgt : Int)) (kt : ¬ x = 0 → Go M R E (tgt, lv, st, w)) (kf : x = 0 → Go M R E (pc + 3, lv, st, w)) : Go M R E (pc, lv, .int x :: st, w) :=
  gx_br (P := x = 0) (fun p l e s m args below meth c ad cl sl Qf H locs ls X a b => lv_if_ne X.1 X.2.1 hd ht b a) kf kt
theorem Go.if_lt {x : Int32} {off : Int} (tgt : Nat) (hd : decode M.2.1 pc = .ok (.ifCond .lt off, 3)) (ht : (pc : Int) + off = (tgt : Int)) (kt : x < 0 → Go M R E (tgt, lv, st, w)) (kf : ¬ x < 0 → Go M R E (pc + 3, lv, st, w)) : Go M R E (pc, lv, .int x :: st, w) :=
  gx_br (fun p l e s m args below meth c ad cl sl Qf H locs ls X a b => lv_if_lt X.1 X.2.1 hd ht a b) kt kf
theorem Go.if_ge {x : Int32} {off : Int} (tgt : Nat) (hd : decode M.2.1 pc = .ok (.ifCond .ge off, 3)) (ht : (pc : Int) + off = (tgt : Int)) (kt : 0 ≤ x → Go M R E (tgt, lv, st, w)) (kf : ¬ 0 ≤ x → Go M R E (pc + 3, lv, st, w)) : Go M R E (pc, lv, .int x :: st, w) :=
  gx_br (fun p l e s m args below meth c ad cl sl Qf H locs ls X a b => lv_if_ge X.1 X.2.1 hd ht a b) kt kf
theorem Go.if_gt {x : Int32} {off : Int} (tgt : Nat) (hd : decode M.2.1 pc = .ok (.ifCond .gt off, 3)) (ht : (pc : Int) + off = (tgt : Int)) (kt : 0 < x → Go M R E (tgt, lv, st, w)) (kf : ¬ 0 < x → Go M R E (pc + 3, lv, st, w)) : Go M R E (pc, lv, .int x :: st, w) :=
  gx_br (fun p l e s m args below meth c ad cl sl Qf H locs ls X a b => lv_if_gt X.1 X.2.1 hd ht a b) kt kf
theorem Go.if_le {x : Int32} {off : Int} (tgt : Nat) (hd : decode M.2.1 pc = .ok (.ifCond .le off, 3)) (ht : (pc : Int) + off = (tgt : Int)) (kt : x ≤ 0 → Go M R E (tgt, lv, st, w)) (kf : ¬ x ≤ 0 → Go M R E (pc + 3, lv, st, w)) : Go M R E (pc, lv, .int x :: st, w) :=
  gx_br (fun p l e s m args below meth c ad cl sl Qf H locs ls X a b => lv_if_le X.1 X.2.1 hd ht a b) kt kf
theorem Go.icmp_eq {x y : Int32} {off : Int} (tgt : Nat) (hd : decode M.2.1 pc = .ok (.if_icmp .eq off, 3)) (ht : (pc : Int) + off = (tgt : Int)) (kt : x = y → Go M R E (tgt, lv, st, w)) (kf : ¬ x = y → Go M R E (pc + 3, lv, st, w)) : Go M R E (pc, lv, .int y :: .int x :: st, w) :=
  gx_br (fun p l e s m args below meth c ad cl sl Qf H locs ls X a b => lv_icmp_eq X.1 X.2.1 hd ht a b) kt kf
theorem Go.icmp_ne {x y : Int32} {off : Int} (tgt : Nat) (hd : decode M.2.1 pc = .ok (.if_icmp .ne off, 3)) (ht : (pc : Int) + off = (tgt : Int)) (kt : ¬ x = y → Go M R E (tgt, lv, st, w)) (kf : x = y → Go M R E (pc + 3, lv, st, w)) : Go M R E (pc, lv, .int y :: .int x :: st, w) :=
  gx_br (P := x = y) (fun p l e s m args below meth c ad cl sl Qf H locs ls X a b => lv_icmp_ne X.1 X.2.1 hd ht b a) kf kt
theorem Go.icmp_lt {x y : Int32} {off : Int} (tgt : Nat) (hd : decode M.2.1 pc = .ok (.if_icmp .lt off, 3)) (ht : (pc : Int) + off = (tgt : Int)) (kt : x < y → Go M R E (tgt, lv, st, w)) (kf : ¬ x < y → Go M R E (pc + 3, lv, st, w)) : Go M R E (pc, lv, .int y :: .int x :: st, w) :=
  gx_br (fun p l e s m args below meth c ad cl sl Qf H locs ls X a b => lv_icmp_lt X.1 X.2.1 hd ht a b) kt kf
theorem Go.icmp_ge {x y : Int32} {off : Int} (tgt : Nat) (hd : decode M.2.1 pc = .ok (.if_icmp .ge off, 3)) (ht : (pc : Int) + off = (tgt : Int)) (kt : y ≤ x → Go M R E (tgt, lv, st, w)) (kf : ¬ y ≤ x → Go M R E (pc + 3, lv, st, w)) : Go M R E (pc, lv, .int y :: .int x :: st, w) :=
  gx_br (fun p l e s m args below meth c ad cl sl Qf H locs ls X a b => lv_icmp_ge X.1 X.2.1 hd ht a b) kt kf
theorem Go.icmp_gt {x y : Int32} {off : Int} (tgt : Nat) (hd : decode M.2.1 pc = .ok (.if_icmp .gt off, 3)) (ht : (pc : Int) + off = (tgt : Int)) (kt : y < x → Go M R E (tgt, lv, st, w)) (kf : ¬ y < x → Go M R E (pc + 3, lv, st, w)) : Go M R E (pc, lv, .int y :: .int x :: st, w) :=
  gx_br (fun p l e s m args below meth c ad cl sl Qf H locs ls X a b => lv_icmp_gt X.1 X.2.1 hd ht a b) kt kf
theorem Go.icmp_le {x y : Int32} {off : Int} (tgt : Nat) (hd : decode M.2.1 pc = .ok (.if_icmp .le off, 3)) (ht : (pc : Int) + off = (tgt : Int)) (kt : x ≤ y → Go M R E (tgt, lv, st, w)) (kf : ¬ x ≤ y → Go M R E (pc + 3, lv, st, w)) : Go M R E (pc, lv, .int y :: .int x :: st, w) :=
  gx_br (fun p l e s m args below meth c ad cl sl Qf H locs ls X a b => lv_icmp_le X.1 X.2.1 hd ht a b) kt kf
theorem Go.ifnull_y {off : Int} (tgt : Nat) (hd : decode M.2.1 pc = .ok (.ifnull off, 3)) (ht : (pc : Int) + off = (tgt : Int)) (k : Go M R E (tgt, lv, st, w)) : Go M R E (pc, lv, .null :: st, w) :=
  gx_topstk (fun p l e s m args below meth c ad cl sl Qf H locs ls X kk => lv_ifnullN X.1 X.2.1 hd ht kk) k
theorem Go.ifnull_n {off : Int} {a : Nat} (hd : decode M.2.1 pc = .ok (.ifnull off, 3)) (k : Go M R E (pc + 3, lv, st, w)) : Go M R E (pc, lv, .ref a :: st, w) :=
  gx_topstk (fun p l e s m args below meth c ad cl sl Qf H locs ls X kk => lv_ifnull X.1 X.2.1 hd kk) k
theorem Go.ifnonnull_n {off : Int} (hd : decode M.2.1 pc = .ok (.ifnonnull off, 3)) (k : Go M R E (pc + 3, lv, st, w)) : Go M R E (pc, lv, .null :: st, w) :=
  gx_topstk (fun p l e s m args below meth c ad cl sl Qf H locs ls X kk => lv_ifnonnullN X.1 X.2.1 hd kk) k
theorem Go.ifnonnull_y {off : Int} {a : Nat} (tgt : Nat) (hd : decode M.2.1 pc = .ok (.ifnonnull off, 3)) (ht : (pc : Int) + off = (tgt : Int)) (k : Go M R E (tgt, lv, st, w)) : Go M R E (pc, lv, .ref a :: st, w) :=
  gx_topstk (fun p l e s m args below meth c ad cl sl Qf H locs ls X kk => lv_ifnonnull X.1 X.2.1 hd ht kk) k
/-- a table switch: the row of targets by the number, or the default -/
theorem Go.tsw {x : Int32} {dflt lo hi : Int} {offs : Array Int} {len : Nat} (hd : decode M.2.1 pc = .ok (.tableswitch dflt lo hi offs, len)) (td : Nat) (htd : (pc : Int) + dflt = (td : Int)) (ts : List Nat) (hts : ∀ j : Nat, j < (hi - lo + 1).toNat → ∃ off t, offs[j]? = some off ∧ ts[j]? = some t ∧ (pc : Int) + off = (t : Int))
    (ko : (x.toInt < lo ∨ hi < x.toInt) → Go M R E (td, lv, st, w)) (ki : ∀ (j t : Nat), ts[j]? = some t → x.toInt = lo + j → j < (hi - lo + 1).toNat → Go M R E (t, lv, st, w)) : Go M R E (pc, lv, .int x :: st, w) := by
  by_cases h : x.toInt < lo ∨ hi < x.toInt
  · exact gx_topstk (fun p l e s m args below meth c ad cl sl Qf H locs ls X kk => lv_tableOut X.1 X.2.1 hd h htd kk) (ko h)
  · have h1 : ¬ x.toInt < lo := fun q => h (Or.inl q)
    have h2 : ¬ hi < x.toInt := fun q => h (Or.inr q)
    obtain ⟨off, t, o1, o2, o3⟩ := hts (x.toInt - lo).toNat (by omega)
    exact gx_topstk (fun p l e s m args below meth c ad cl sl Qf H locs ls X kk => lv_tableIn X.1 X.2.1 hd h1 h2 o1 o3 kk) (ki (x.toInt - lo).toNat t o2 (by omega) (by omega))
end Flow
/-- the outcome of a method: what it answers, and the world behind it -/
def gQ (D : va_G) (ad : Nat → Nat) (cA : Nat → ClassId) (A : Nat → Prop) (Q : Option Value → gW → Prop) : Array Value → State → Outcome → State → Prop := fun _ s o t =>
  (∃ (r : Option Value) (w : gW), o = .returned (r.map (gv ad)) ∧ Q r w ∧ va_P D vwCl (gw ad cA w) t.heap ∧ va_K D vwCl (gT cA) t ∧ va_D A (gw ad cA w)) ∧ va_F A s t
/-- a method's contract: on this world, with these arguments, an answer and a world of Q -/
def Ct (M : gM) (R : Room) (av : List Value) (w : gW) (Q : Option Value → gW → Prop) : Prop :=
  ∀ (l : Launch) (D : va_G) (ad : Nat → Nat) (cA : Nat → ClassId) (sz : Nat), Met l M.1 (gws M) R (va_Pc (av.map (gv ad)) (fun U => U.heap.size = sz ∧ va_P D vwCl (gw ad cA w) U.heap ∧ va_K D vwCl (gT cA) U ∧ va_D (fun _ => True) (gw ad cA w) ∧ gN U)) (gQ D ad cA (va_A (gw ad cA w) sz) Q) 0 0 (va_A (gw ad cA w) sz)
/-- a state at a return instruction, with an answer of Q -/
def gRet (M : gM) (Q : Option Value → gW → Prop) (x : gS) : Prop := match M.2.2.2, x.2.2.1 with
  | none, [] => decode M.2.1 x.1 = .ok (.return_, 1) ∧ Q none x.2.2.2
  | some .int, [.int v] => decode M.2.1 x.1 = .ok (.ireturn, 1) ∧ Q (some (.int v)) x.2.2.2
  | some .boolean, [.int v] => decode M.2.1 x.1 = .ok (.ireturn, 1) ∧ v &&& 1 = v ∧ Q (some (.int v)) x.2.2.2
  | some .long, [.long v] => decode M.2.1 x.1 = .ok (.lreturn, 1) ∧ Q (some (.long v)) x.2.2.2
  | some (.object _), [.ref a] => decode M.2.1 x.1 = .ok (.areturn, 1) ∧ Q (some (.ref a)) x.2.2.2
  | some (.object _), [.null] => decode M.2.1 x.1 = .ok (.areturn, 1) ∧ Q (some .null) x.2.2.2
  | _, _ => False
theorem gl_args (ad : Nat → Nat) : ∀ (vs : List Value) (i : Nat), lv_args i (vs.map (gv ad)) = (lv_args i vs).map (gl ad)
  | [], _ => rfl
  | v :: vs, i => by
    simp only [List.map, lv_args, gv_cat, gl_args ad vs]
    rfl
theorem gl_slots (ad : Nat → Nat) : ∀ (vs : List Value), (lg_sl (vs.map (gv ad))).length = (lg_sl vs).length
  | [] => rfl
  | v :: vs => by
    have ih := gl_slots ad vs
    simp only [lg_sl, List.map, List.flatMap_cons, List.length_append] at ih ⊢
    rw [ih, gv_cat]
    by_cases h : v.category = 2
    · simp [h]
    · simp [h]
theorem Ct.of {M : gM} {R : Room} {av : List Value} {w : gW} {Q : Option Value → gW → Prop} (hy : plainName M.1.cls = true) (hn : (lg_sl av).length ≤ M.2.2.1) (h : Go M R (gRet M Q) (0, lv_args 0 av, [], w)) : Ct M R av w Q := by
  intro l D ad cA sz
  refine Met.ofW (cc := M.2.1) (maxL := M.2.2.1) (ret := M.2.2.2) hy rfl ?_
  intro p e s m args below meth c s₁ B hml hv
  obtain ⟨rfl, hsz, hP, hK, hD0, hN⟩ := hv
  have hts := atoms_spec (ws := gws M) B.pre
  have hown : s.vm.findClass M.1.cls = some m.cls := findClass_of_methodNamed B.named
  have hlocks := B.notSynchronized
  subst hsz
  have hD := hD0.self (sz := s.heap.size)
  generalize hAe : va_A (gw ad cA w) s.heap.size = A at hD ⊢
  have hA : ∀ q : Nat, s.heap.size ≤ q → A q := fun q h => by rw [← hAe]; exact Or.inr h
  have hl := lv_entry (av.map (gv ad)) (n := M.2.2.1) (by rw [gl_slots]; exact hn)
  rw [lg_entry_eq]
  generalize (lg_sl (av.map (gv ad)) ++ List.replicate (M.2.2.1 - (lg_sl (av.map (gv ad))).length) Slot.unset).toArray = ls at hl ⊢
  rw [gl_args] at hl
  have X : gX M p s m (av.map (gv ad)).toArray meth c := ⟨B.exec, B.bytes, B.returns, hml, hown, fun w hw => hts w (List.mem_cons_of_mem _ hw), hlocks, hN⟩
  refine h p l e s m _ below meth c D ad cA A s.heap 0 0 _ X (Nat.zero_le _) (Nat.zero_le _) hA ?_ s.heap [] ls ⟨hK, hP, hD, va_S.rf, hl⟩
  intro y H locs ls hE hI
  obtain ⟨pc, lv, st, w2⟩ := y
  have hfin : ∀ (r : Option Value), Q r w2 → ∀ t : State, t.heap = H → s.WarmedH t.vm → gQ D ad cA A Q (av.map (gv ad)).toArray s (.returned (r.map (gv ad))) t := by
    intro r hr t ht hW
    refine ⟨⟨r, w2, rfl, hr, ?_, va_K.moved hW.alike hI.1, hI.2.2.1⟩, hI.2.2.2.1.F ht⟩
    rw [ht]
    exact hI.2.1
  unfold gRet at hE
  split at hE
  · rename_i h1 h2
    have h2 : st = [] := h2
    subst h2
    exact W.vret X.1 X.2.1 (X.2.2.1.trans h1) (hfin none hE.2) hI.2.2.2.1.2.2 hE.1
  · rename_i v h1 h2
    have h2 : st = [.int v] := h2
    subst h2
    exact W.iret X.1 X.2.1 (X.2.2.1.trans h1) (hfin (some (.int v)) hE.2) hI.2.2.2.1.2.2 hE.1
  · rename_i v h1 h2
    have h2 : st = [.int v] := h2
    subst h2
    exact W.zret X.1 X.2.1 (X.2.2.1.trans h1) (by show Value.int (v &&& 1) = _; rw [hE.2.1]) (hfin (some (.int v)) hE.2.2) hI.2.2.2.1.2.2 hE.1
  · rename_i v h1 h2
    have h2 : st = [.long v] := h2
    subst h2
    exact W.lret X.1 X.2.1 (X.2.2.1.trans h1) (hfin (some (.long v)) hE.2) hI.2.2.2.1.2.2 hE.1
  · rename_i n a h1 h2
    have h2 : st = [.ref a] := h2
    subst h2
    exact W.aret X.1 X.2.1 (X.2.2.1.trans h1) (Or.inl ⟨_, rfl⟩) (Or.inr ⟨_, rfl⟩) (hfin (some (.ref a)) hE.2) hI.2.2.2.1.2.2 hE.1
  · rename_i n h1 h2
    have h2 : st = [.null] := h2
    subst h2
    exact W.aret X.1 X.2.1 (X.2.2.1.trans h1) (Or.inl ⟨_, rfl⟩) (Or.inl rfl) (hfin (some .null) hE.2) hI.2.2.2.1.2.2 hE.1
  · exact hE.elim
