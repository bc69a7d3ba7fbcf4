/-! An instruction as a function (g2), a stretch of instructions (prun), branches, ends. -/
abbrev gvp (i : Int32) (n : Nat) : Prop := ¬ (i < 0 ∨ n ≤ i.toNatClampNeg)
def g2 (I : gI) (nL : Nat) (ins : Instr) (pc : Nat) (lv : List (Nat × Value)) (st : List Value) (w : gW) : Option (gS × List Prop) :=
  match ins with
  | .iconst n => some ((pc + 1, lv, .int (Int32.ofInt n) :: st, w), [])
  | .bipush n => some ((pc + 2, lv, .int (Int8.ofInt n).toInt32 :: st, w), [])
  | .sipush n => some ((pc + 3, lv, .int (Int16.ofInt n).toInt32 :: st, w), [])
  | .lconst n => some ((pc + 1, lv, .long (Int64.ofNat (n : Nat)) :: st, w), [])
  | .aconst_null => some ((pc + 1, lv, .null :: st, w), [])
  | .ldc i => match gck I.2.1 i with
    | some v => some ((pc + 2, lv, .int v :: st, w), [])
    | none => none
  | .ldc_w i => match gck I.2.1 i with
    | some v => some ((pc + 3, lv, .int v :: st, w), [])
    | none => none
  | .ldc2_w i => match gck I.2.2 i with
    | some v => some ((pc + 3, lv, .long v :: st, w), [])
    | none => none
  | .iload i => match gget lv i with
    | some (.int v) => some ((pc + 2, lv, .int v :: st, w), [])
    | _ => none
  | .iload_n i => match gget lv (i : Nat) with
    | some (.int v) => some ((pc + 1, lv, .int v :: st, w), [])
    | _ => none
  | .lload i => match gget lv i with
    | some (.long v) => some ((pc + 2, lv, .long v :: st, w), [])
    | _ => none
  | .lload_n i => match gget lv (i : Nat) with
    | some (.long v) => some ((pc + 1, lv, .long v :: st, w), [])
    | _ => none
  | .aload i => match gget lv i with
    | some (.ref v) => some ((pc + 2, lv, .ref v :: st, w), [])
    | some .null => some ((pc + 2, lv, .null :: st, w), [])
    | _ => none
  | .aload_n i => match gget lv (i : Nat) with
    | some (.ref v) => some ((pc + 1, lv, .ref v :: st, w), [])
    | some .null => some ((pc + 1, lv, .null :: st, w), [])
    | _ => none
  | .istore i => match st with
    | .int v :: st => bif Nat.blt i nL then some ((pc + 2, gset1 lv i (.int v), st, w), []) else none
    | _ => none
  | .istore_n i => match st with
    | .int v :: st => bif Nat.blt (i : Nat) nL then some ((pc + 1, gset1 lv (i : Nat) (.int v), st, w), []) else none
    | _ => none
  | .lstore i => match st with
    | .long v :: st => bif Nat.blt (i + 1) nL then some ((pc + 2, gset2 lv i (.long v), st, w), []) else none
    | _ => none
  | .lstore_n i => match st with
    | .long v :: st => bif Nat.blt ((i : Nat) + 1) nL then some ((pc + 1, gset2 lv (i : Nat) (.long v), st, w), []) else none
    | _ => none
  | .astore i => match st with
    | .ref v :: st => bif Nat.blt i nL then some ((pc + 2, gset1 lv i (.ref v), st, w), []) else none
    | .null :: st => bif Nat.blt i nL then some ((pc + 2, gset1 lv i .null, st, w), []) else none
    | _ => none
  | .astore_n i => match st with
    | .ref v :: st => bif Nat.blt (i : Nat) nL then some ((pc + 1, gset1 lv (i : Nat) (.ref v), st, w), []) else none
    | .null :: st => bif Nat.blt (i : Nat) nL then some ((pc + 1, gset1 lv (i : Nat) .null, st, w), []) else none
    | _ => none
  | .iinc i n => match gget lv i with
    | some (.int v) => bif Nat.blt i nL then some ((pc + 3, gset1 lv i (.int (v + Int32.ofInt n)), st, w), []) else none
    | _ => none
  | .i2l => match st with
    | .int v :: st => some ((pc + 1, lv, .long v.toInt64 :: st, w), [])
    | _ => none
  | .l2i => match st with
    | .long v :: st => some ((pc + 1, lv, .int v.toInt32 :: st, w), [])
    | _ => none
  | .i2s => match st with
    | .int v :: st => some ((pc + 1, lv, .int v.toInt16.toInt32 :: st, w), [])
    | _ => none
  | .ineg => match st with
    | .int v :: st => some ((pc + 1, lv, .int (-v) :: st, w), [])
    | _ => none
  | .lcmp => match st with
    | .long b :: .long a :: st => some ((pc + 1, lv, .int (lg_cmp a b) :: st, w), [])
    | _ => none
  | .idiv => match st with
    | .int b :: .int a :: st => some ((pc + 1, lv, .int (a / b) :: st, w), [¬ b = 0])
    | _ => none
  | .irem => match st with
    | .int b :: .int a :: st => some ((pc + 1, lv, .int (a - a / b * b) :: st, w), [¬ b = 0])
    | _ => none
  | .dup => match st with
    | .int v :: st => some ((pc + 1, lv, .int v :: .int v :: st, w), [])
    | .ref v :: st => some ((pc + 1, lv, .ref v :: .ref v :: st, w), [])
    | _ => none
  | .dup2 => match st with
    | .int v :: .ref u :: st => some ((pc + 1, lv, .int v :: .ref u :: .int v :: .ref u :: st, w), [])
    | _ => none
  | .pop => match st with
    | .int _ :: st => some ((pc + 1, lv, st, w), [])
    | _ => none
  | .getfield i => match st with
    | .ref a :: st => match gfind w a 0 with
      | some (_, .inr (ci, fs)) => match gfk I.1 i ci with
        | some f => match fs[f]? with
          | some v => some ((pc + 3, lv, v :: st, w), [])
          | none => none
        | none => none
      | _ => none
    | _ => none
  | .putfield i => match st with
    | v :: .ref a :: st => match gfind w a 0 with
      | some (n, .inr (ci, fs)) => match gfk I.1 i ci with
        | some f => bif (match vwCl[ci]? with
              | some q => !(q.2.1 f).2.2.2 && (match parseFieldDescriptor (q.2.1 f).2.2.1 with
                | some ty => gfits ty v
                | none => false)
              | none => false) && Nat.blt f fs.length then some ((pc + 3, lv, st, w.set n (a, .inr (ci, fs.set f v))), []) else none
        | none => none
      | _ => none
    | _ => none
  | .iaload => match st with
    | .int i :: .ref a :: st => match gfind w a 0 with
      | some (_, .inl (0, z, .inl g)) => some ((pc + 1, lv, .int (g i.toNatClampNeg) :: st, w), [gvp i z])
      | _ => none
    | _ => none
  | .laload => match st with
    | .int i :: .ref a :: st => match gfind w a 0 with
      | some (_, .inl (1, z, .inr (.inl g))) => some ((pc + 1, lv, .long (g i.toNatClampNeg) :: st, w), [gvp i z])
      | _ => none
    | _ => none
  | .aaload => match st with
    | .int i :: .ref a :: st => match gfind w a 0 with
      | some (_, .inl (2, z, .inr (.inr (.inr (.inr g))))) => some ((pc + 1, lv, va_rf (g i.toNatClampNeg) :: st, w), [gvp i z])
      | _ => none
    | _ => none
  | .iastore => match st with
    | .int v :: .int i :: .ref a :: st => match gfind w a 0 with
      | some (n, .inl (0, z, .inl g)) => some ((pc + 1, lv, st, w.set n (a, .inl (0, z, .inl (upd g i.toNatClampNeg v)))), [gvp i z])
      | _ => none
    | _ => none
  | .lastore => match st with
    | .long v :: .int i :: .ref a :: st => match gfind w a 0 with
      | some (n, .inl (1, z, .inr (.inl g))) => some ((pc + 1, lv, st, w.set n (a, .inl (1, z, .inr (.inl (vp_updL g i.toNatClampNeg v))))), [gvp i z])
      | _ => none
    | _ => none
  | .arraylength => match st with
    | .ref a :: st => match gfind w a 0 with
      | some (_, .inl (t, z, _)) => bif Nat.blt t 3 then some ((pc + 1, lv, .int (Int32.ofNat z) :: st, w), []) else none
      | _ => none
    | _ => none
  | .goto off => match ((pc : Int) + off) with
    | .ofNat t => some ((t, lv, st, w), [])
    | _ => none
  | ins => match gbin ins with
    | some f => match st with
      | .int b :: .int a :: st => some ((pc + 1, lv, .int (f a b) :: st, w), [])
      | _ => none
    | none => match glbin ins with
      | some f => match st with
        | .long b :: .long a :: st => some ((pc + 1, lv, .long (f a b) :: st, w), [])
        | _ => none
      | none => match glsh ins with
        | some f => match st with
          | .int b :: .long a :: st => some ((pc + 1, lv, .long (f a b) :: st, w), [])
          | _ => none
        | none => none
section RunRules
variable {M : gM} {R : Room} {E : gS → Prop} {pc : Nat} {lv : List (Nat × Value)} {st : List Value} {w : gW}
theorem gx_topstk {pc' : Nat} {st' : List Value} (hstep : ∀ (p : Program) (l : Launch) (e : Env) (s : State) (m : MethodId) (args : Array Value) (below : List Frame) (meth : Method) (c : Code) (ad : Nat → Nat) (cl sl : Nat) (Qf : State → Prop) (H : Heap) (locs : List Loc) (ls : Array Slot), gX M p s m args meth c → W p l e R s m args below meth c H locs cl sl Qf (F0 m pc' ls (st'.map (gv ad))) → W p l e R s m args below meth c H locs cl sl Qf (F0 m pc ls (st.map (gv ad)))) (k : Go M R E (pc', lv, st', w)) : Go M R E (pc, lv, st, w) :=
  Go.stk (fun p l e s m args below meth c ad cl sl Qf H locs ls X _ kk => hstep p l e s m args below meth c ad cl sl Qf H locs ls X kk) k
set_option maxHeartbeats 4000000 in
theorem g2_sound {I : gI} (hI : gIok M.1.cls I) {ins : Instr} {y : gS} {cs : List Prop} (h : g2 I M.2.2.1 ins pc lv st w = some (y, cs)) (hd : decode M.2.1 pc = .ok (ins, glen ins)) (hc : gAll cs) (k : Go M R E y) : Go M R E (pc, lv, st, w) := by
  cases ins
  case iconst n =>
    cases h
    exact gx_topstk (fun p l e s m args below meth c ad cl sl Qf H locs ls X kk => lv_iconst X.1 X.2.1 hd rfl kk) k
  case bipush n =>
    cases h
    exact gx_topstk (fun p l e s m args below meth c ad cl sl Qf H locs ls X kk => lv_bipush X.1 X.2.1 hd rfl kk) k
  case sipush n =>
    cases h
    exact gx_topstk (fun p l e s m args below meth c ad cl sl Qf H locs ls X kk => lv_sipush X.1 X.2.1 hd rfl kk) k
  case lconst n =>
    cases h
    exact gx_topstk (fun p l e s m args below meth c ad cl sl Qf H locs ls X kk => lv_lconst X.1 X.2.1 hd rfl kk) k
  case aconst_null =>
    cases h
    exact gx_topstk (fun p l e s m args below meth c ad cl sl Qf H locs ls X kk => lv_null X.1 X.2.1 hd kk) k
  case ldc i =>
    simp only [g2] at h
    split at h
    · rename_i v hv
      cases h
      exact gx_topstk (fun p l e s m args below meth c ad cl sl Qf H locs ls X kk => lv_ldc X.1 X.2.1 X.2.2.2.2.1 (X.2.2.2.2.2.1 _ (hI.2.1 _ (gck_mem hv))) hd kk) k
    · cases h
  case ldc_w i =>
    simp only [g2] at h
    split at h
    · rename_i v hv
      cases h
      exact gx_topstk (fun p l e s m args below meth c ad cl sl Qf H locs ls X kk => lv_ldcw X.1 X.2.1 X.2.2.2.2.1 (X.2.2.2.2.2.1 _ (hI.2.1 _ (gck_mem hv))) hd kk) k
    · cases h
  case ldc2_w i =>
    simp only [g2] at h
    split at h
    · rename_i v hv
      cases h
      exact gx_topstk (fun p l e s m args below meth c ad cl sl Qf H locs ls X kk => lv_ldc2 X.1 X.2.1 X.2.2.2.2.1 (X.2.2.2.2.2.1 _ (hI.2.2 _ (gck_mem hv))) hd kk) k
    · cases h
  case iload i =>
    simp only [g2] at h
    split at h
    · rename_i v hv
      cases h
      exact gx_load (Or.inl ⟨rfl, rfl⟩) hv ⟨_, rfl⟩ hd k
    · cases h
  case iload_n i =>
    simp only [g2] at h
    split at h
    · rename_i v hv
      cases h
      exact gx_load (Or.inr (Or.inr (Or.inr ⟨i, rfl, rfl, Or.inl rfl⟩))) hv ⟨_, rfl⟩ hd k
    · cases h
  case lload i =>
    simp only [g2] at h
    split at h
    · rename_i v hv
      cases h
      exact gx_load (Or.inr (Or.inr (Or.inl ⟨rfl, rfl⟩))) hv ⟨_, rfl⟩ hd k
    · cases h
  case lload_n i =>
    simp only [g2] at h
    split at h
    · rename_i v hv
      cases h
      exact gx_load (Or.inr (Or.inr (Or.inr ⟨i, rfl, rfl, Or.inr (Or.inr rfl)⟩))) hv ⟨_, rfl⟩ hd k
    · cases h
  case aload i =>
    simp only [g2] at h
    split at h
    · rename_i v hv
      cases h
      exact gx_load (Or.inr (Or.inl ⟨rfl, rfl⟩)) hv (Or.inr ⟨_, rfl⟩) hd k
    · rename_i hv
      cases h
      exact gx_load (Or.inr (Or.inl ⟨rfl, rfl⟩)) hv (Or.inl rfl) hd k
    · cases h
  case aload_n i =>
    simp only [g2] at h
    split at h
    · rename_i v hv
      cases h
      exact gx_load (Or.inr (Or.inr (Or.inr ⟨i, rfl, rfl, Or.inr (Or.inl rfl)⟩))) hv (Or.inr ⟨_, rfl⟩) hd k
    · rename_i hv
      cases h
      exact gx_load (Or.inr (Or.inr (Or.inr ⟨i, rfl, rfl, Or.inr (Or.inl rfl)⟩))) hv (Or.inl rfl) hd k
    · cases h
  case istore i =>
    simp only [g2] at h
    split at h
    · by_cases hb : Nat.blt i M.2.2.1 = true
      · rw [hb] at h
        cases h
        exact gx_istore (Or.inl ⟨rfl, rfl⟩) (Nat.blt_eq.mp hb) hd k
      · rw [Bool.eq_false_iff.mpr hb] at h
        cases h
    · cases h
  case istore_n i =>
    simp only [g2] at h
    split at h
    · by_cases hb : Nat.blt (i : Nat) M.2.2.1 = true
      · rw [hb] at h
        cases h
        exact gx_istore (Or.inr ⟨i, rfl, rfl, rfl⟩) (Nat.blt_eq.mp hb) hd k
      · rw [Bool.eq_false_iff.mpr hb] at h
        cases h
    · cases h
  case lstore i =>
    simp only [g2] at h
    split at h
    · by_cases hb : Nat.blt (i + 1) M.2.2.1 = true
      · rw [hb] at h
        cases h
        exact gx_lstore (Or.inl ⟨rfl, rfl⟩) (Nat.blt_eq.mp hb) hd k
      · rw [Bool.eq_false_iff.mpr hb] at h
        cases h
    · cases h
  case lstore_n i =>
    simp only [g2] at h
    split at h
    · by_cases hb : Nat.blt ((i : Nat) + 1) M.2.2.1 = true
      · rw [hb] at h
        cases h
        exact gx_lstore (Or.inr ⟨i, rfl, rfl, rfl⟩) (Nat.blt_eq.mp hb) hd k
      · rw [Bool.eq_false_iff.mpr hb] at h
        cases h
    · cases h
  case astore i =>
    simp only [g2] at h
    split at h
    · by_cases hb : Nat.blt i M.2.2.1 = true
      · rw [hb] at h
        cases h
        exact gx_astore (Or.inl ⟨rfl, rfl⟩) (Or.inr ⟨_, rfl⟩) (Nat.blt_eq.mp hb) hd k
      · rw [Bool.eq_false_iff.mpr hb] at h
        cases h
    · by_cases hb : Nat.blt i M.2.2.1 = true
      · rw [hb] at h
        cases h
        exact gx_astore (Or.inl ⟨rfl, rfl⟩) (Or.inl rfl) (Nat.blt_eq.mp hb) hd k
      · rw [Bool.eq_false_iff.mpr hb] at h
        cases h
    · cases h
  case astore_n i =>
    simp only [g2] at h
    split at h
    · by_cases hb : Nat.blt (i : Nat) M.2.2.1 = true
      · rw [hb] at h
        cases h
        exact gx_astore (Or.inr ⟨i, rfl, rfl, rfl⟩) (Or.inr ⟨_, rfl⟩) (Nat.blt_eq.mp hb) hd k
      · rw [Bool.eq_false_iff.mpr hb] at h
        cases h
    · by_cases hb : Nat.blt (i : Nat) M.2.2.1 = true
      · rw [hb] at h
        cases h
        exact gx_astore (Or.inr ⟨i, rfl, rfl, rfl⟩) (Or.inl rfl) (Nat.blt_eq.mp hb) hd k
      · rw [Bool.eq_false_iff.mpr hb] at h
        cases h
    · cases h
  case iinc i n =>
    simp only [g2] at h
    split at h
    · rename_i v hv
      by_cases hb : Nat.blt i M.2.2.1 = true
      · rw [hb] at h
        cases h
        exact gx_iinc hv (Nat.blt_eq.mp hb) hd k
      · rw [Bool.eq_false_iff.mpr hb] at h
        cases h
    · cases h
  case i2l =>
    simp only [g2] at h
    split at h
    · cases h
      exact gx_topstk (fun p l e s m args below meth c ad cl sl Qf H locs ls X kk => lv_i2l X.1 X.2.1 hd rfl kk) k
    · cases h
  case l2i =>
    simp only [g2] at h
    split at h
    · cases h
      exact gx_topstk (fun p l e s m args below meth c ad cl sl Qf H locs ls X kk => lv_l2i X.1 X.2.1 hd rfl kk) k
    · cases h
  case i2s =>
    simp only [g2] at h
    split at h
    · cases h
      exact gx_topstk (fun p l e s m args below meth c ad cl sl Qf H locs ls X kk => lv_i2s X.1 X.2.1 hd rfl kk) k
    · cases h
  case ineg =>
    simp only [g2] at h
    split at h
    · cases h
      exact gx_topstk (fun p l e s m args below meth c ad cl sl Qf H locs ls X kk => lv_ineg X.1 X.2.1 hd kk) k
    · cases h
  case lcmp =>
    simp only [g2] at h
    split at h
    · cases h
      exact gx_topstk (fun p l e s m args below meth c ad cl sl Qf H locs ls X kk => W.lcmp X.1 X.2.1 hd kk) k
    · cases h
  case idiv =>
    simp only [g2] at h
    split at h
    · cases h
      exact gx_topstk (fun p l e s m args below meth c ad cl sl Qf H locs ls X kk => lv_idiv X.1 X.2.1 hd hc.1 kk) k
    · cases h
  case irem =>
    simp only [g2] at h
    split at h
    · cases h
      exact gx_topstk (fun p l e s m args below meth c ad cl sl Qf H locs ls X kk => lv_irem X.1 X.2.1 hd hc.1 kk) k
    · cases h
  case dup =>
    simp only [g2] at h
    split at h
    · cases h
      exact gx_topstk (fun p l e s m args below meth c ad cl sl Qf H locs ls X kk => lv_dup X.1 X.2.1 hd rfl kk) k
    · cases h
      exact gx_topstk (fun p l e s m args below meth c ad cl sl Qf H locs ls X kk => lv_dup X.1 X.2.1 hd rfl kk) k
    · cases h
  case dup2 =>
    simp only [g2] at h
    split at h
    · cases h
      exact gx_topstk (fun p l e s m args below meth c ad cl sl Qf H locs ls X kk => lv_dup2_11 X.1 X.2.1 hd rfl rfl kk) k
    · cases h
  case pop =>
    simp only [g2] at h
    split at h
    · cases h
      exact gx_topstk (fun p l e s m args below meth c ad cl sl Qf H locs ls X kk => lv_pop X.1 X.2.1 hd rfl kk) k
    · cases h
  case getfield i =>
    simp only [g2] at h
    split at h
    · split at h
      · rename_i h1
        split at h
        · rename_i h2
          split at h
          · rename_i h3
            cases h
            exact gx_get hI h1 h2 h3 hd k
          · cases h
        · cases h
      · cases h
    · cases h
  case putfield i =>
    simp only [g2] at h
    split at h
    · split at h
      · rename_i h1
        split at h
        · rename_i h2
          revert h
          generalize hb : ((_ : Bool) && _) = b0
          intro h
          cases b0
          · cases h
          · cases h
            obtain ⟨b1, b2⟩ := Bool.and_eq_true_iff.mp hb
            exact gx_put hI h1 h2 b1 (Nat.blt_eq.mp b2) hd k
        · cases h
      · cases h
    · cases h
  case iaload =>
    simp only [g2] at h
    split at h
    · split at h
      · rename_i h1
        cases h
        exact gx_iald h1 hc.1 hd k
      · cases h
    · cases h
  case laload =>
    simp only [g2] at h
    split at h
    · split at h
      · rename_i h1
        cases h
        exact gx_lald h1 hc.1 hd k
      · cases h
    · cases h
  case aaload =>
    simp only [g2] at h
    split at h
    · split at h
      · rename_i h1
        cases h
        exact gx_aald h1 hc.1 hd k
      · cases h
    · cases h
  case iastore =>
    simp only [g2] at h
    split at h
    · split at h
      · rename_i h1
        cases h
        exact gx_iast h1 hc.1 hd k
      · cases h
    · cases h
  case lastore =>
    simp only [g2] at h
    split at h
    · split at h
      · rename_i h1
        cases h
        exact gx_last h1 hc.1 hd k
      · cases h
    · cases h
  case arraylength =>
    simp only [g2] at h
    split at h
    · split at h
      · rename_i t z g h1
        by_cases hb : Nat.blt t 3 = true
        · rw [hb] at h
          cases h
          exact gx_alen h1 (Nat.blt_eq.mp hb) hd k
        · rw [Bool.eq_false_iff.mpr hb] at h
          cases h
      · cases h
    · cases h
  case goto off =>
    simp only [g2] at h
    split at h
    · rename_i t ht
      cases h
      exact gx_topstk (fun p l e s m args below meth c ad cl sl Qf H locs ls X kk => lv_goto X.1 X.2.1 hd ht kk) k
    · cases h
  all_goals
    first
      | (simp only [g2, gbin, glbin, glsh] at h; cases h; done)
      | (simp only [g2, gbin, glbin, glsh] at h
         split at h
         · cases h
           first
             | exact gx_bin rfl hd k
             | exact gx_lbin rfl hd k
             | exact gx_lsh rfl hd k
         · cases h)
end RunRules
