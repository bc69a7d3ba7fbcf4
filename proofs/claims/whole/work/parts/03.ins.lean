/-! One instruction over a state, as a function, and its soundness. -/
def gAll : List Prop → Prop
  | [] => True
  | c :: t => c ∧ gAll t
/-- what the pools of a class say: fields (pool index, class number of the object, field number), int constants, long constants -/
abbrev gI : Type := List (Nat × Nat × Nat) × List (Nat × Int32) × List (Nat × Int64)
def gFok (own : String) (q : Nat × Nat × Nat) : Prop := ∃ (C : String) (T : u_T) (N : Nat) (ref : String) (ty : Nat → FieldType), vwCl[q.2.1]? = some (C, T, N) ∧ q.2.2 < N ∧ Cond.fieldLink own q.1 ref (T q.2.2).2.1 (T q.2.2).2.2.1 ∈ gTB ∧ (ref = (T q.2.2).1 ∨ Cond.sameField ref (T q.2.2).1 (T q.2.2).2.1 (T q.2.2).2.2.1 ∈ gTB) ∧ (∀ w ∈ u_ws C T N, w ∈ gTB) ∧ (∀ k, k < N → parseFieldDescriptor (T k).2.2.1 = some (ty k)) ∧ (∀ a, a < N → ∀ b, b < N → a ≠ b → (T a).2.1 ≠ (T b).2.1)
def gIok (own : String) (I : gI) : Prop := (∀ q ∈ I.1, gFok own q) ∧ (∀ q ∈ I.2.1, Cond.constant own q.1 q.2 ∈ gTB) ∧ (∀ q ∈ I.2.2, Cond.constantLong own q.1 q.2 ∈ gTB)
def gfk : List (Nat × Nat × Nat) → Nat → Nat → Option Nat
  | [], _, _ => none
  | (i, ci, k) :: t, j, cj => bif i == j && ci == cj then some k else gfk t j cj
theorem gfk_mem : ∀ {l : List (Nat × Nat × Nat)} {j cj k : Nat}, gfk l j cj = some k → (j, cj, k) ∈ l
  | [], j, cj, k, h => by cases h
  | (i, ci, k0) :: t, j, cj, k, h => by
    unfold gfk at h
    by_cases hb : (i == j && ci == cj) = true
    · rw [hb] at h
      simp at hb h
      obtain ⟨rfl, rfl⟩ := hb
      subst h
      exact List.mem_cons_self
    · have hb : (i == j && ci == cj) = false := by simpa using hb
      rw [hb] at h
      exact List.mem_cons_of_mem _ (gfk_mem (by simpa using h))
def gck {α : Type} : List (Nat × α) → Nat → Option α
  | [], _ => none
  | (i, v) :: t, j => bif i == j then some v else gck t j
theorem gck_mem {α : Type} : ∀ {l : List (Nat × α)} {j : Nat} {v : α}, gck l j = some v → (j, v) ∈ l
  | [], j, v, h => by cases h
  | (i, u) :: t, j, v, h => by
    unfold gck at h
    by_cases hb : i = j
    · subst hb
      simp at h
      subst h
      exact List.mem_cons_self
    · have hb : (i == j) = false := by simpa using hb
      rw [hb] at h
      exact List.mem_cons_of_mem _ (gck_mem (by simpa using h))
/-- may a field of this type take this value as it is -/
def gfits : FieldType → Value → Bool
  | .int, .int _ => true
  | .long, .long _ => true
  | .boolean, .int v => v == 0 || v == 1
  | .object _, .ref _ => true
  | .array _, .ref _ => true
  | .object _, .null => true
  | .array _, .null => true
  | _, _ => false
theorem gfits_spec {ty : FieldType} {v : Value} (ad : Nat → Nat) (h : gfits ty v = true) : narrow ty (gv ad v) = gv ad v ∧ fits ty (gv ad v) = true := by
  cases ty <;> cases v <;> simp [gfits] at h <;> first
    | exact ⟨rfl, rfl⟩
    | (rcases h with rfl | rfl <;> exact ⟨rfl, rfl⟩)
def glen : Instr → Nat
  | .bipush _ | .iload _ | .lload _ | .aload _ | .istore _ | .lstore _ | .astore _ | .ldc _ | .newarray _ => 2
  | .sipush _ | .iinc _ _ | .ldc2_w _ | .ldc_w _ | .getfield _ | .putfield _ | .goto _ | .ifCond _ _ | .if_icmp _ _ | .ifnull _ | .ifnonnull _ | .invokevirtual _ | .invokestatic _ | .invokespecial _ | .new _ | .anewarray _ => 3
  | _ => 1
def gbin : Instr → Option (Int32 → Int32 → Int32)
  | .iadd => some (fun x y => x + y)
  | .isub => some (fun x y => x - y)
  | .imul => some (fun x y => x * y)
  | .iand => some (fun x y => x &&& y)
  | .ior => some (fun x y => x ||| y)
  | .ixor => some (fun x y => x ^^^ y)
  | .ishl => some (fun x y => x <<< (y &&& 31))
  | .ishr => some (fun x y => x >>> (y &&& 31))
  | .iushr => some (fun x y => (x.toUInt32 >>> (y.toUInt32 &&& Int32.toUInt32 31)).toInt32)
  | _ => none
def glbin : Instr → Option (Int64 → Int64 → Int64)
  | .ladd => some (fun x y => x + y)
  | .lsub => some (fun x y => x - y)
  | .land => some (fun x y => x &&& y)
  | .lor => some (fun x y => x ||| y)
  | _ => none
def glsh : Instr → Option (Int64 → Int32 → Int64)
  | .lshl => some (fun x y => x <<< (y.toInt64 &&& 63))
  | .lshr => some (fun x y => x >>> (y.toInt64 &&& 63))
  | .lushr => some (fun x y => (x.toUInt64 >>> (y.toInt64.toUInt64 &&& Int64.toUInt64 63)).toInt64)
  | _ => none
section InsRules
variable {M : gM} {R : Room} {E : gS → Prop} {pc : Nat} {lv : List (Nat × Value)} {st : List Value} {w : gW}
theorem gx_bin {ins : Instr} {f : Int32 → Int32 → Int32} {a b : Int32} (h : gbin ins = some f) (hd : decode M.2.1 pc = .ok (ins, 1)) (k : Go M R E (pc + 1, lv, .int (f a b) :: st, w)) : Go M R E (pc, lv, .int b :: .int a :: st, w) := by
  refine Go.stk (fun p l e s m args below meth c ad cl sl Qf H locs ls X hl kk => ?_) k
  cases ins <;> simp only [gbin, Option.some.injEq, reduceCtorEq] at h <;> subst h
  · exact lv_iadd X.1 X.2.1 hd kk
  · exact lv_iand X.1 X.2.1 hd kk
  · exact lv_imul X.1 X.2.1 hd kk
  · exact lv_ior X.1 X.2.1 hd kk
  · exact lv_ishl X.1 X.2.1 hd kk
  · exact lv_ishr X.1 X.2.1 hd kk
  · exact lv_isub X.1 X.2.1 hd kk
  · exact lv_iushr X.1 X.2.1 hd rfl kk
  · exact lv_ixor X.1 X.2.1 hd kk
theorem gx_lbin {ins : Instr} {f : Int64 → Int64 → Int64} {a b : Int64} (h : glbin ins = some f) (hd : decode M.2.1 pc = .ok (ins, 1)) (k : Go M R E (pc + 1, lv, .long (f a b) :: st, w)) : Go M R E (pc, lv, .long b :: .long a :: st, w) := by
  refine Go.stk (fun p l e s m args below meth c ad cl sl Qf H locs ls X hl kk => ?_) k
  cases ins <;> simp only [glbin, Option.some.injEq, reduceCtorEq] at h <;> subst h
  · exact lv_ladd X.1 X.2.1 hd kk
  · exact lv_land X.1 X.2.1 hd kk
  · exact lv_lor X.1 X.2.1 hd kk
  · exact lv_lsub X.1 X.2.1 hd kk
theorem gx_lsh {ins : Instr} {f : Int64 → Int32 → Int64} {a : Int64} {b : Int32} (h : glsh ins = some f) (hd : decode M.2.1 pc = .ok (ins, 1)) (k : Go M R E (pc + 1, lv, .long (f a b) :: st, w)) : Go M R E (pc, lv, .int b :: .long a :: st, w) := by
  refine Go.stk (fun p l e s m args below meth c ad cl sl Qf H locs ls X hl kk => ?_) k
  cases ins <;> simp only [glsh, Option.some.injEq, reduceCtorEq] at h <;> subst h
  · exact lv_lshl X.1 X.2.1 hd rfl kk
  · exact lv_lshr X.1 X.2.1 hd rfl kk
  · exact lv_lushr X.1 X.2.1 hd rfl kk
theorem gx_load {ins : Instr} {i n : Nat} {v : Value} (hi : ins = .iload i ∧ n = 2 ∨ ins = .aload i ∧ n = 2 ∨ ins = .lload i ∧ n = 2 ∨ (∃ k : Fin 4, (k : Nat) = i ∧ n = 1 ∧ (ins = .iload_n k ∨ ins = .aload_n k ∨ ins = .lload_n k))) (hv : gget lv i = some v) (ht : match ins with
    | .iload _ | .iload_n _ => ∃ x, v = .int x
    | .lload _ | .lload_n _ => ∃ x, v = .long x
    | _ => v = .null ∨ ∃ x, v = .ref x) (hd : decode M.2.1 pc = .ok (ins, n)) (k : Go M R E (pc + n, lv, v :: st, w)) : Go M R E (pc, lv, st, w) := by
  refine Go.stk (fun p l e s m args below meth c ad cl sl Qf H locs ls X hl kk => ?_) k
  have hg := gget_at hl hv
  rcases hi with ⟨rfl, rfl⟩ | ⟨rfl, rfl⟩ | ⟨rfl, rfl⟩ | ⟨q, hq, rfl, rfl | rfl | rfl⟩ <;> simp only at ht
  · obtain ⟨x, rfl⟩ := ht
    exact lv_iload X.1 X.2.1 hd hg kk
  · rcases ht with rfl | ⟨x, rfl⟩
    · exact lv_aloadN X.1 X.2.1 hd hg kk
    · exact lv_aload X.1 X.2.1 hd hg kk
  · obtain ⟨x, rfl⟩ := ht
    exact lv_lload X.1 X.2.1 hd hg kk
  · obtain ⟨x, rfl⟩ := ht
    exact lv_iload_n X.1 X.2.1 hd hq hg kk
  · rcases ht with rfl | ⟨x, rfl⟩
    · exact lv_aload_nN X.1 X.2.1 hd hq hg kk
    · exact lv_aload_n X.1 X.2.1 hd hq hg kk
  · obtain ⟨x, rfl⟩ := ht
    exact lv_lload_n X.1 X.2.1 hd hq hg kk
theorem gx_set1 {i n : Nat} {v : Value} (hv : v.category = 1) (hn : i < M.2.2.1) (hstep : ∀ (p : Program) (l : Launch) (e : Env) (s : State) (m : MethodId) (args : Array Value) (below : List Frame) (meth : Method) (c : Code) (ad : Nat → Nat) (cl sl : Nat) (Qf : State → Prop) (H : Heap) (locs : List Loc) (ls : Array Slot), gX M p s m args meth c → lv_has ls M.2.2.1 (lv.map (gl ad)) → (∀ ls' : Array Slot, lv_has ls' M.2.2.1 ((i, gv ad v) :: (lv.map (gl ad)).filter (fun q => !(q.1 == i) && !(q.1 + 1 == i && q.2.category == 2))) → W p l e R s m args below meth c H locs cl sl Qf (F0 m (pc + n) ls' (st.map (gv ad)))) → W p l e R s m args below meth c H locs cl sl Qf (F0 m pc ls ((v :: st).map (gv ad)))) (k : Go M R E (pc + n, gset1 lv i v, st, w)) : Go M R E (pc, lv, v :: st, w) := by
  intro p l e s m args below meth c D ad cA A H0 cl sl Qf X hc hs hA kE H locs ls hI
  refine hstep p l e s m args below meth c ad cl sl Qf H locs ls X hI.2.2.2.2 (fun ls' hl' => ?_)
  refine k p l e s m args below meth c D ad cA A H0 cl sl Qf X hc hs hA kE H locs ls' ⟨hI.1, hI.2.1, hI.2.2.1, hI.2.2.2.1, ?_⟩
  rw [gl_filter1] at hl'
  exact hl'
theorem gx_istore {ins : Instr} {i n : Nat} {x : Int32} (hi : ins = .istore i ∧ n = 2 ∨ (∃ k : Fin 4, (k : Nat) = i ∧ n = 1 ∧ ins = .istore_n k)) (hn : i < M.2.2.1) (hd : decode M.2.1 pc = .ok (ins, n)) (k : Go M R E (pc + n, gset1 lv i (.int x), st, w)) : Go M R E (pc, lv, .int x :: st, w) := by
  refine gx_set1 rfl hn (fun p l e s m args below meth c ad cl sl Qf H locs ls X hl kk => ?_) k
  rcases hi with ⟨rfl, rfl⟩ | ⟨q, hq, rfl, rfl⟩
  · exact lv_istore X.1 X.2.1 hd hl hn rfl kk
  · exact lv_istore_n X.1 X.2.1 hd hq hl hn rfl kk
theorem gx_astore {ins : Instr} {i n : Nat} {v : Value} (hi : ins = .astore i ∧ n = 2 ∨ (∃ k : Fin 4, (k : Nat) = i ∧ n = 1 ∧ ins = .astore_n k)) (hv : v = .null ∨ ∃ x, v = .ref x) (hn : i < M.2.2.1) (hd : decode M.2.1 pc = .ok (ins, n)) (k : Go M R E (pc + n, gset1 lv i v, st, w)) : Go M R E (pc, lv, v :: st, w) := by
  refine gx_set1 (by rcases hv with rfl | ⟨x, rfl⟩ <;> rfl) hn (fun p l e s m args below meth c ad cl sl Qf H locs ls X hl kk => ?_) k
  rcases hv with rfl | ⟨x, rfl⟩
  · rcases hi with ⟨rfl, rfl⟩ | ⟨q, hq, rfl, rfl⟩
    · exact lv_astoreN X.1 X.2.1 hd hl hn rfl kk
    · exact lv_astore_nN X.1 X.2.1 hd hq hl hn rfl kk
  · rcases hi with ⟨rfl, rfl⟩ | ⟨q, hq, rfl, rfl⟩
    · exact lv_astore X.1 X.2.1 hd hl hn rfl kk
    · exact lv_astore_n X.1 X.2.1 hd hq hl hn rfl kk
theorem gx_lstore {ins : Instr} {i n : Nat} {x : Int64} (hi : ins = .lstore i ∧ n = 2 ∨ (∃ k : Fin 4, (k : Nat) = i ∧ n = 1 ∧ ins = .lstore_n k)) (hn : i + 1 < M.2.2.1) (hd : decode M.2.1 pc = .ok (ins, n)) (k : Go M R E (pc + n, gset2 lv i (.long x), st, w)) : Go M R E (pc, lv, .long x :: st, w) := by
  intro p l e s m args below meth c D ad cA A H0 cl sl Qf X hc hs hA kE H locs ls hI
  have kk : ∀ ls' : Array Slot, lv_has ls' M.2.2.1 ((i, Value.long x) :: (lv.map (gl ad)).filter (fun q => !(q.1 == i) && (!(q.1 == i + 1) && !(q.1 + 1 == i && q.2.category == 2)))) → W p l e R s m args below meth c H locs cl sl Qf (F0 m (pc + n) ls' (st.map (gv ad))) := by
    intro ls' hl'
    refine k p l e s m args below meth c D ad cA A H0 cl sl Qf X hc hs hA kE H locs ls' ⟨hI.1, hI.2.1, hI.2.2.1, hI.2.2.2.1, ?_⟩
    rw [gl_filter2] at hl'
    exact hl'
  rcases hi with ⟨rfl, rfl⟩ | ⟨q, hq, rfl, rfl⟩
  · exact lv_lstore X.1 X.2.1 hd hI.2.2.2.2 hn rfl kk
  · exact lv_lstore_n X.1 X.2.1 hd hq hI.2.2.2.2 hn rfl kk
theorem gx_iinc {i : Nat} {n : Int} {x : Int32} (hg : gget lv i = some (.int x)) (hn : i < M.2.2.1) (hd : decode M.2.1 pc = .ok (.iinc i n, 3)) (k : Go M R E (pc + 3, gset1 lv i (.int (x + Int32.ofInt n)), st, w)) : Go M R E (pc, lv, st, w) := by
  intro p l e s m args below meth c D ad cA A H0 cl sl Qf X hc hs hA kE H locs ls hI
  obtain ⟨j, hj⟩ := gget_mem hg
  refine lv_iinc (k := j) X.1 X.2.1 hd hI.2.2.2.2 (by rw [List.getElem?_map, hj]; rfl) rfl hn rfl (fun ls' hl' => ?_)
  refine k p l e s m args below meth c D ad cA A H0 cl sl Qf X hc hs hA kE H locs ls' ⟨hI.1, hI.2.1, hI.2.2.1, hI.2.2.2.1, ?_⟩
  rw [gl_filter1] at hl'
  exact hl'
theorem gx_get {I : gI} (hI : gIok M.1.cls I) {idx a n ci f : Nat} {fs : List Value} {v : Value} (hf : gfind w a 0 = some (n, .inr (ci, fs))) (hk : gfk I.1 idx ci = some f) (hv : fs[f]? = some v) (hd : decode M.2.1 pc = .ok (.getfield idx, 3)) (k : Go M R E (pc + 3, lv, v :: st, w)) : Go M R E (pc, lv, .ref a :: st, w) := by
  intro p l e s m args below meth c D ad cA A H0 cl sl Qf X hc hs hA kE H locs ls hN
  obtain ⟨C, T, N, ref, ty, h1, h2, h3, h4, h5, h6, h7⟩ := hI.1 _ (gfk_mem hk)
  refine va_get (Ts := gTB) (ref := ref) X.1 X.2.1 X.2.2.2.2.2.1 h5 X.2.2.2.2.1 hN.1 hN.2.1 n (gw_at (gfind_at hf)) h1 f h2 (X.2.2.2.2.2.1 _ h3) ?_ (v := gv ad v) ?_ hd (k p l e s m args below meth c D ad cA A H0 cl sl Qf X hc hs hA kE H locs ls hN)
  · rcases h4 with rfl | h4
    · exact fun _ h9 => h9
    · exact fun x9 h9 => u_same (X.2.2.2.2.2.1 _ h4) x9 h9
  · rw [List.getElem?_map, hv]
    rfl
theorem gx_put {I : gI} (hI : gIok M.1.cls I) {idx a n ci f : Nat} {fs : List Value} {v : Value} (hf : gfind w a 0 = some (n, .inr (ci, fs))) (hk : gfk I.1 idx ci = some f) (hq : (match vwCl[ci]? with
    | some q => !(q.2.1 f).2.2.2 && (match parseFieldDescriptor (q.2.1 f).2.2.1 with
      | some ty => gfits ty v
      | none => false)
    | none => false) = true) (hl : f < fs.length) (hd : decode M.2.1 pc = .ok (.putfield idx, 3)) (k : Go M R E (pc + 3, lv, st, w.set n (a, .inr (ci, fs.set f v)))) : Go M R E (pc, lv, v :: .ref a :: st, w) := by
  intro p l e s m args below meth c D ad cA A H0 cl sl Qf X hc hs hA kE H locs ls hN
  obtain ⟨C, T, N, ref, ty, h1, h2, h3, h4, h5, h6, h7⟩ := hI.1 _ (gfk_mem hk)
  dsimp only at h1 h2
  rw [h1] at hq
  simp only [Bool.and_eq_true, Bool.not_eq_true'] at hq
  obtain ⟨q1, q2⟩ := hq
  have h6f := h6 f h2
  rw [h6f] at q2
  obtain ⟨n1, n2⟩ := gfits_spec ad q2
  refine va_put (Ts := gTB) (ref := ref) (v := gv ad v) (ty := ty f) X.1 X.2.1 X.2.2.2.2.2.1 h5 ty h6 h7 X.2.2.2.2.1 hN.1 hN.2.1 hN.2.2.1 hN.2.2.2.1 n (gw_at (gfind_at hf)) h1 f h2 (X.2.2.2.2.2.1 _ h3) ?_ q1 h6f n1 n2 (by rw [List.length_map]; exact hl) hd (fun H1 locs1 p1 p2 p3 => ?_)
  · rcases h4 with rfl | h4
    · exact fun _ h9 => h9
    · exact fun x9 h9 => u_same (X.2.2.2.2.2.1 _ h4) x9 h9
  · refine k p l e s m args below meth c D ad cA A H0 cl sl Qf X hc hs hA kE H1 locs1 ls ⟨hN.1, ?_, ?_, p3, hN.2.2.2.2⟩
    · show va_P D vwCl (gw ad cA (w.set n (a, .inr (ci, fs.set f v)))) H1
      rw [gw_set, gC, List.map_set]
      exact p1
    · show va_D A (gw ad cA (w.set n (a, .inr (ci, fs.set f v))))
      rw [gw_set, gC, List.map_set]
      exact p2
theorem gx_iald {a n z : Nat} {g : Nat → Int32} {i : Int32} (hf : gfind w a 0 = some (n, .inl (0, z, .inl g))) (hin : vp_in i z) (hd : decode M.2.1 pc = .ok (.iaload, 1)) (k : Go M R E (pc + 1, lv, .int (g i.toNatClampNeg) :: st, w)) : Go M R E (pc, lv, .int i :: .ref a :: st, w) := by
  intro p l e s m args below meth c D ad cA A H0 cl sl Qf X hc hs hA kE H locs ls hN
  exact va_iald X.1 X.2.1 hN.1 hN.2.1 n 0 (gw_at (gfind_at hf)) rfl hin hd (k p l e s m args below meth c D ad cA A H0 cl sl Qf X hc hs hA kE H locs ls hN)
theorem gx_lald {a n z : Nat} {g : Nat → Int64} {i : Int32} (hf : gfind w a 0 = some (n, .inl (1, z, .inr (.inl g)))) (hin : vp_in i z) (hd : decode M.2.1 pc = .ok (.laload, 1)) (k : Go M R E (pc + 1, lv, .long (g i.toNatClampNeg) :: st, w)) : Go M R E (pc, lv, .int i :: .ref a :: st, w) := by
  intro p l e s m args below meth c D ad cA A H0 cl sl Qf X hc hs hA kE H locs ls hN
  exact va_lald X.1 X.2.1 hN.1 hN.2.1 n 1 (gw_at (gfind_at hf)) rfl hin hd (k p l e s m args below meth c D ad cA A H0 cl sl Qf X hc hs hA kE H locs ls hN)
theorem gx_aald {a n z : Nat} {g : Nat → Option Nat} {i : Int32} (hf : gfind w a 0 = some (n, .inl (2, z, .inr (.inr (.inr (.inr g)))))) (hin : vp_in i z) (hd : decode M.2.1 pc = .ok (.aaload, 1)) (k : Go M R E (pc + 1, lv, va_rf (g i.toNatClampNeg) :: st, w)) : Go M R E (pc, lv, .int i :: .ref a :: st, w) := by
  intro p l e s m args below meth c D ad cA A H0 cl sl Qf X hc hs hA kE H locs ls hN
  refine va_aldq (C := RX6) X.1 X.2.1 hN.1 hN.2.1 n 2 (gw_at (gfind_at hf)) rfl hin hd ?_
  have e0 : va_rf ((g i.toNatClampNeg).map ad) = gv ad (va_rf (g i.toNatClampNeg)) := by cases g i.toNatClampNeg <;> rfl
  rw [e0]
  exact k p l e s m args below meth c D ad cA A H0 cl sl Qf X hc hs hA kE H locs ls hN
theorem gx_iast {a n z : Nat} {g : Nat → Int32} {i v : Int32} (hf : gfind w a 0 = some (n, .inl (0, z, .inl g))) (hin : vp_in i z) (hd : decode M.2.1 pc = .ok (.iastore, 1)) (k : Go M R E (pc + 1, lv, st, w.set n (a, .inl (0, z, .inl (upd g i.toNatClampNeg v))))) : Go M R E (pc, lv, .int v :: .int i :: .ref a :: st, w) := by
  intro p l e s m args below meth c D ad cA A H0 cl sl Qf X hc hs hA kE H locs ls hN
  refine va_iast X.1 X.2.1 hN.1 hN.2.1 hN.2.2.1 hN.2.2.2.1 n 0 (gw_at (gfind_at hf)) rfl hin hd (fun H1 locs1 p1 p2 p3 => ?_)
  refine k p l e s m args below meth c D ad cA A H0 cl sl Qf X hc hs hA kE H1 locs1 ls ⟨hN.1, ?_, ?_, p3, hN.2.2.2.2⟩
  · show va_P D vwCl (gw ad cA (w.set n _)) H1
    rw [gw_set]
    exact p1
  · show va_D A (gw ad cA (w.set n _))
    rw [gw_set]
    exact p2
theorem gx_last {a n z : Nat} {g : Nat → Int64} {i : Int32} {v : Int64} (hf : gfind w a 0 = some (n, .inl (1, z, .inr (.inl g)))) (hin : vp_in i z) (hd : decode M.2.1 pc = .ok (.lastore, 1)) (k : Go M R E (pc + 1, lv, st, w.set n (a, .inl (1, z, .inr (.inl (vp_updL g i.toNatClampNeg v)))))) : Go M R E (pc, lv, .long v :: .int i :: .ref a :: st, w) := by
  intro p l e s m args below meth c D ad cA A H0 cl sl Qf X hc hs hA kE H locs ls hN
  refine va_last X.1 X.2.1 hN.1 hN.2.1 hN.2.2.1 hN.2.2.2.1 n 1 (gw_at (gfind_at hf)) rfl hin hd (fun H1 locs1 p1 p2 p3 => ?_)
  refine k p l e s m args below meth c D ad cA A H0 cl sl Qf X hc hs hA kE H1 locs1 ls ⟨hN.1, ?_, ?_, p3, hN.2.2.2.2⟩
  · show va_P D vwCl (gw ad cA (w.set n _)) H1
    rw [gw_set]
    exact p1
  · show va_D A (gw ad cA (w.set n _))
    rw [gw_set]
    exact p2
theorem gx_alen {a n t z : Nat} {g : (Nat → Int32) ⊕ (Nat → Int64) ⊕ (Nat → UInt32) ⊕ (Nat → UInt64) ⊕ (Nat → Option Nat)} (hf : gfind w a 0 = some (n, .inl (t, z, g))) (ht : t < 3) (hd : decode M.2.1 pc = .ok (.arraylength, 1)) (k : Go M R E (pc + 1, lv, .int (Int32.ofNat z) :: st, w)) : Go M R E (pc, lv, .ref a :: st, w) := by
  intro p l e s m args below meth c D ad cA A H0 cl sl Qf X hc hs hA kE H locs ls hN
  have h9 : (gA ad (z, g)).1 = z := by
    rcases g with g | g | g | g | g <;> rfl
  refine va_alen (ty := if t = 0 then .int else if t = 1 then .long else .object RX6) X.1 X.2.1 hN.1 hN.2.1 n t (gw_at (gfind_at hf)) ?_ (by rw [h9]) hd (k p l e s m args below meth c D ad cA A H0 cl sl Qf X hc hs hA kE H locs ls hN)
  rcases (show t = 0 ∨ t = 1 ∨ t = 2 by omega) with rfl | rfl | rfl <;> rfl
end InsRules
