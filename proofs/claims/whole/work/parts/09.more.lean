/-! What the generated walks use beside the rules. -/
theorem gpos {c : Prop} [Decidable c] {α : Type} {a b x : α} (h : c) (e : (if c then a else b) = x) : a = x := by
  rw [if_pos h] at e
  exact e
theorem gneg {c : Prop} [Decidable c] {α : Type} {a b x : α} (h : ¬ c) (e : (if c then a else b) = x) : b = x := by
  rw [if_neg h] at e
  exact e
def gr (l : List Nat) (k : Nat) : Nat := (l[k]?).getD k
abbrev grem (a b : Int32) : Int32 := a - a / b * b
abbrev gushr (x y : Int32) : Int32 := (x.toUInt32 >>> (y.toUInt32 &&& Int32.toUInt32 31)).toInt32
abbrev glshl (x : Int64) (y : Int32) : Int64 := x <<< (y.toInt64 &&& 63)
abbrev glshr (x : Int64) (y : Int32) : Int64 := x >>> (y.toInt64 &&& 63)
abbrev glushr (x : Int64) (y : Int32) : Int64 := (x.toUInt64 >>> (y.toInt64.toUInt64 &&& Int64.toUInt64 63)).toInt64
/-- the fuel of every loop: some number above 10000 (which one is not to be computed) -/
noncomputable def gN0 : Nat := (Classical.choice (⟨⟨10001, by decide⟩⟩ : Nonempty {n : Nat // 10000 < n})).1
theorem gN0_big : 10000 < gN0 := (Classical.choice (⟨⟨10001, by decide⟩⟩ : Nonempty {n : Nat // 10000 < n})).2
abbrev gcp (sp dp n : Int32) (n0 n1 : Nat) : Prop := ¬ sp < 0 ∧ ¬ dp < 0 ∧ ¬ n < 0 ∧ sp.toNatClampNeg + n.toNatClampNeg ≤ n0 ∧ dp.toNatClampNeg + n.toNatClampNeg ≤ n1
def gLC (own : String) (idx : Nat) : Prop := Cond.methodLink own idx arraycopyName ∈ gTB ∧ Cond.native arraycopyName ∈ gTB ∧ Cond.static arraycopyName ∈ gTB ∧ Cond.initialized "java/lang/System" ∈ gTB
theorem gsw_ne {x a b : Int32} (h : x = a) (hn : ¬ a = b) : ¬ x = b := by rw [h]; exact hn
section MoreRules
variable {M : gM} {R : Room} {E : gS → Prop} {pc : Nat} {lv lv' : List (Nat × Value)} {st : List Value} {w : gW} {L : List (Nat × Instr)} {idx : Nat}
theorem Go.loc (ks : List Nat) (h : lv_pick lv ks = lv') (k : Go M R E (pc, lv', st, w)) : Go M R E (pc, lv, st, w) := by
  intro p l e s m args below meth c D ad cA A H0 cl sl Qf X hc hs hA kE H locs ls hI
  refine k p l e s m args below meth c D ad cA A H0 cl sl Qf X hc hs hA kE H locs ls ⟨hI.1, hI.2.1, hI.2.2.1, hI.2.2.2.1, ?_⟩
  refine lv_sub hI.2.2.2.2 ks ?_
  subst h
  show lv_pick (lv.map (gl ad)) ks = (lv_pick lv ks).map (gl ad)
  unfold lv_pick
  rw [List.map_filterMap]
  have e : (fun (k : Nat) => (List.map (gl ad) lv)[k]?) = (fun (k : Nat) => Option.map (gl ad) lv[k]?) := by
    funext k
    rw [List.getElem?_map]
  rw [e]
theorem Go.tswN {x : Int32} {dflt hi : Int} {offs : Array Int} {len : Nat} (hd : decode M.2.1 pc = .ok (.tableswitch dflt 0 hi offs, len)) (td : Nat) (htd : (pc : Int) + dflt = (td : Int)) (ts : List Nat) (hts : offs.toList = ts.map (fun (t : Nat) => (t : Int) - (pc : Int))) (hhi : hi + 1 = (ts.length : Int))
    (ko : (x.toInt < 0 ∨ hi < x.toInt) → Go M R E (td, lv, st, w)) (ki : ∀ (j t : Nat), ts[j]? = some t → x = Int32.ofNat j → Go M R E (t, lv, st, w)) : Go M R E (pc, lv, .int x :: st, w) := by
  refine Go.tsw hd td htd ts ?_ ko ?_
  · intro j hj
    have h1 : j < ts.length := by omega
    refine ⟨(ts[j] : Int) - (pc : Int), ts[j], ?_, List.getElem?_eq_getElem h1, by omega⟩
    rw [← Array.getElem?_toList, hts, List.getElem?_map, List.getElem?_eq_getElem h1]
    rfl
  · intro j t hj hx hl
    refine ki j t hj ?_
    apply Int32.toInt_inj.mp
    have h1 : j < ts.length := (List.getElem?_eq_some_iff.mp hj).1
    have h2 : x.toInt < 2 ^ 31 := Int32.toInt_lt x
    rw [hx, Int32.toInt_ofNat_of_lt (by omega)]
    omega
theorem gx_copy {a0 a1 n0 n1 q0 q1 : Nat} {f g : Nat → Int32} {sp dp n : Int32} (h0 : gfind w a0 0 = some (q0, .inl (0, n0, .inl f))) (h1 : gfind w a1 0 = some (q1, .inl (0, n1, .inl g))) (hL : gLC M.1.cls idx) (hc : gcp sp dp n n0 n1) (hfr : 1 ≤ R.frames) (hlo : 8 + (nativeFrameWords "java/lang/System" "arraycopy" 5 + 11) ≤ R.locals) (hW : (st.map fun v => v.category).sum ≤ 8) (hd : decode M.2.1 pc = .ok (.invokestatic idx, 3)) (k : Go M R E (pc + 3, lv, st, w.set q1 (a1, .inl (0, n1, .inl (va_cpy f g sp.toNatClampNeg dp.toNatClampNeg n.toNatClampNeg))))) : Go M R E (pc, lv, .int n :: .int dp :: .ref a1 :: .int sp :: .ref a0 :: st, w) := by
  intro p l e s m args below meth c D ad cA A H0 cl sl Qf X hcl hs hA kE H locs ls hN
  obtain ⟨l1, l2, l3, l4⟩ := hL
  refine va_copyi (ty := .int) X.1 X.2.1 (X.2.2.2.1.trans hN.2.2.2.2.1.symm) X.2.2.2.2.1 (X.2.2.2.2.2.1 _ l1) (X.2.2.2.2.2.1 _ l2) (X.2.2.2.2.2.1 _ l3) (X.2.2.2.2.2.1 _ l4) hN.1 hN.2.1 hN.2.2.1 hN.2.2.2.1 q0 q1 0 0 (gw_at (gfind_at h0)) (gw_at (gfind_at h1)) rfl rfl rfl hc.1 hc.2.1 hc.2.2.1 hc.2.2.2.1 hc.2.2.2.2 (fun _ _ => rfl) hfr ?_ hd (fun H1 locs1 p1 p2 p3 => ?_)
  · have := gst_cat ad st
    rw [this]
    omega
  · refine k p l e s m args below meth c D ad cA A H0 cl sl Qf X hcl hs hA kE H1 locs1 ls ⟨hN.1, ?_, ?_, p3, hN.2.2.2.2⟩
    · show va_P D vwCl (gw ad cA (w.set q1 _)) H1
      rw [gw_set]
      exact p1
    · show va_D A (gw ad cA (w.set q1 _))
      rw [gw_set]
      exact p2
theorem gx_copyl {a0 a1 n0 n1 q0 q1 : Nat} {f g : Nat → Int64} {sp dp n : Int32} (h0 : gfind w a0 0 = some (q0, .inl (1, n0, .inr (.inl f)))) (h1 : gfind w a1 0 = some (q1, .inl (1, n1, .inr (.inl g)))) (hL : gLC M.1.cls idx) (hc : gcp sp dp n n0 n1) (hfr : 1 ≤ R.frames) (hlo : 8 + (nativeFrameWords "java/lang/System" "arraycopy" 5 + 11) ≤ R.locals) (hW : (st.map fun v => v.category).sum ≤ 8) (hd : decode M.2.1 pc = .ok (.invokestatic idx, 3)) (k : Go M R E (pc + 3, lv, st, w.set q1 (a1, .inl (1, n1, .inr (.inl (va_cpy f g sp.toNatClampNeg dp.toNatClampNeg n.toNatClampNeg)))))) : Go M R E (pc, lv, .int n :: .int dp :: .ref a1 :: .int sp :: .ref a0 :: st, w) := by
  intro p l e s m args below meth c D ad cA A H0 cl sl Qf X hcl hs hA kE H locs ls hN
  obtain ⟨l1, l2, l3, l4⟩ := hL
  refine va_copyl (ty := .long) X.1 X.2.1 (X.2.2.2.1.trans hN.2.2.2.2.1.symm) X.2.2.2.2.1 (X.2.2.2.2.2.1 _ l1) (X.2.2.2.2.2.1 _ l2) (X.2.2.2.2.2.1 _ l3) (X.2.2.2.2.2.1 _ l4) hN.1 hN.2.1 hN.2.2.1 hN.2.2.2.1 q0 q1 1 1 (gw_at (gfind_at h0)) (gw_at (gfind_at h1)) rfl rfl rfl hc.1 hc.2.1 hc.2.2.1 hc.2.2.2.1 hc.2.2.2.2 (fun _ _ => rfl) hfr ?_ hd (fun H1 locs1 p1 p2 p3 => ?_)
  · have := gst_cat ad st
    rw [this]
    omega
  · refine k p l e s m args below meth c D ad cA A H0 cl sl Qf X hcl hs hA kE H1 locs1 ls ⟨hN.1, ?_, ?_, p3, hN.2.2.2.2⟩
    · show va_P D vwCl (gw ad cA (w.set q1 _)) H1
      rw [gw_set]
      exact p1
    · show va_D A (gw ad cA (w.set q1 _))
      rw [gw_set]
      exact p2
theorem Tx_i (hq : gDec M.2.1 L) (i : Nat) (h : L[i]? = some (pc, .invokestatic idx)) (hL : gLC M.1.cls idx) {a0 a1 n0 n1 q0 q1 : Nat} {f g : Nat → Int32} {sp dp n : Int32} (h0 : gfind w a0 0 = some (q0, .inl (0, n0, .inl f))) (h1 : gfind w a1 0 = some (q1, .inl (0, n1, .inl g))) (hc : gcp sp dp n n0 n1) (hfr : 1 ≤ R.frames) (hlo : 8 + (nativeFrameWords "java/lang/System" "arraycopy" 5 + 11) ≤ R.locals) (hW : (st.map fun v => v.category).sum ≤ 8) (w1 : gW) (hw : w.set q1 (a1, .inl (0, n1, .inl (va_cpy f g sp.toNatClampNeg dp.toNatClampNeg n.toNatClampNeg))) = w1) (k : Go M R E (pc + 3, lv, st, w1)) : Go M R E (pc, lv, .int n :: .int dp :: .ref a1 :: .int sp :: .ref a0 :: st, w) := by
  have h9 := hq.at2 i h rfl
  subst hw
  exact gx_copy h0 h1 hL hc hfr hlo hW h9 k
theorem Tx_l (hq : gDec M.2.1 L) (i : Nat) (h : L[i]? = some (pc, .invokestatic idx)) (hL : gLC M.1.cls idx) {a0 a1 n0 n1 q0 q1 : Nat} {f g : Nat → Int64} {sp dp n : Int32} (h0 : gfind w a0 0 = some (q0, .inl (1, n0, .inr (.inl f)))) (h1 : gfind w a1 0 = some (q1, .inl (1, n1, .inr (.inl g)))) (hc : gcp sp dp n n0 n1) (hfr : 1 ≤ R.frames) (hlo : 8 + (nativeFrameWords "java/lang/System" "arraycopy" 5 + 11) ≤ R.locals) (hW : (st.map fun v => v.category).sum ≤ 8) (w1 : gW) (hw : w.set q1 (a1, .inl (1, n1, .inr (.inl (va_cpy f g sp.toNatClampNeg dp.toNatClampNeg n.toNatClampNeg)))) = w1) (k : Go M R E (pc + 3, lv, st, w1)) : Go M R E (pc, lv, .int n :: .int dp :: .ref a1 :: .int sp :: .ref a0 :: st, w) := by
  have h9 := hq.at2 i h rfl
  subst hw
  exact gx_copyl h0 h1 hL hc hfr hlo hW h9 k
end MoreRules
theorem gv_id (v : Value) : gv (fun k => k) v = v := by cases v <;> rfl
theorem gvs_id (vs : List Value) : vs.map (gv (fun k => k)) = vs := by
  induction vs with
  | nil => rfl
  | cons v vs ih => rw [List.map, gv_id, ih]
theorem gren_id (q : Nat × gE) : gren (fun k => k) q = q := by
  obtain ⟨k, ⟨t, n, f | f | f | f | f⟩ | ⟨ci, vs⟩⟩ := q <;> try rfl
  · show (k, Sum.inl (t, n, _)) = _
    have e : (fun i => Option.map (fun k => k) (f i)) = f := by
      funext i
      cases f i <;> rfl
    rw [e]
  · show (k, Sum.inr (ci, vs.map (gv (fun k => k)))) = _
    rw [gvs_id]
theorem grens_id (w : gW) : w.map (gren (fun k => k)) = w := by
  induction w with
  | nil => rfl
  | cons q w ih => rw [List.map, gren_id, ih]
/-- a call whose callee keeps the caller's numbers -/
theorem Tk_v0 {M M' : gM} {R R' : Room} {E : gS → Prop} {pc : Nat} {lv : List (Nat × Value)} {w w2 w3 : gW} {L : List (Nat × Instr)} {av : List Value} {rr : Option Value} {idx n : Nat} (hq : gDec M.2.1 L) (i : Nat) (h : L[i]? = some (pc, .invokevirtual idx)) {b ci : Nat} {fs : List Value} (hC : Cd M' R' (.ref b :: av) w2 rr w3) {C : String} (hL : gLV M.1.cls idx C M' n) {T : u_T} {N : Nat} (j : Nat) (hb : w2[j]? = some (b, .inr (ci, fs))) (hci : vwCl[ci]? = some (C, T, N)) (is : List Nat) (hs : is.map (fun i => w[i]?) = w2.map some) (hnd : va_nd is = true) (hk3 : w3.map (fun q => q.1) = w2.map (fun q => q.1)) (hn : av.length = n) (hR : gRoom R R' M'.2.2.1) {st0 : List Value} (st : List Value) (hst : st0 = av.reverse ++ .ref b :: st) (hW : (st.map fun v => v.category).sum ≤ 8) (st1 : List Value) (hst1 : rr.toList ++ st = st1) (w1 : gW) (hw1 : gput w is w3 = w1) (k : Go M R E (pc + 3, lv, st1, w1)) : Go M R E (pc, lv, st0, w) := by
  refine Tk_v hq i h hC hL j hb hci (fun k => k) is ?_ hnd hk3 hn hR st ?_ hW st1 ?_ w1 ?_ k
  · rw [grens_id, hs]
  · rw [gvs_id, hst]
  · rw [← hst1]
    cases rr with
    | none => rfl
    | some v => simp only [Option.map, gv_id]
  · rw [grens_id, hw1]
def gsh : Nat → Option Nat
  | 0 => some 41
  | 1 => some 43
  | 2 => some 45
  | 3 => some 47
  | _ => none
def IJ9 : gI := ([], [], [])
theorem IJ9_ok : gIok RJ9 IJ9 := ⟨fun _ h => absurd h List.not_mem_nil, fun _ h => absurd h List.not_mem_nil, fun _ h => absurd h List.not_mem_nil⟩
abbrev gabs (x : Int32) : Int32 := if 0 ≤ x then x else 0 - x
abbrev gmin (x y : Int32) : Int32 := if y < x then y else x
def gLA (own : String) (idx : Nat) : Prop := Cond.methodLink own idx Lib.Math.abs.name ∈ gTB ∧ Cond.static Lib.Math.abs.name ∈ gTB ∧ Cond.initialized "java/lang/Math" ∈ gTB ∧ Cond.code Lib.Math.abs.name Lib.Math.abs.code 1 (some .int) ∈ gTB
def gLM (own : String) (idx : Nat) : Prop := Cond.methodLink own idx Lib.Math.min.name ∈ gTB ∧ Cond.static Lib.Math.min.name ∈ gTB ∧ Cond.initialized "java/lang/Math" ∈ gTB ∧ Cond.code Lib.Math.min.name Lib.Math.min.code 2 (some .int) ∈ gTB
theorem Tx_abs {M : gM} {R : Room} {E : gS → Prop} {pc : Nat} {lv : List (Nat × Value)} {st : List Value} {w : gW} {L : List (Nat × Instr)} {idx : Nat} (hq : gDec M.2.1 L) (i : Nat) (h : L[i]? = some (pc, .invokestatic idx)) (hL : gLA M.1.cls idx) {x : Int32} (hfr : 1 ≤ R.frames) (hlo : 8 + 13 ≤ R.locals) (hW : (st.map fun v => v.category).sum ≤ 8) (k : Go M R E (pc + 3, lv, .int (gabs x) :: st, w)) : Go M R E (pc, lv, .int x :: st, w) := by
  have h9 := hq.at2 i h rfl
  obtain ⟨l1, l2, l3, l4⟩ := hL
  intro p l e s m args below meth c D ad cA A H0 cl sl Qf X hcl hs hA kE H locs ls hN
  refine va_mabs X.1 X.2.1 (X.2.2.2.1.trans hN.2.2.2.2.1.symm) X.2.2.2.2.1 (X.2.2.2.2.2.1 _ l1) (X.2.2.2.2.2.1 _ l2) (X.2.2.2.2.2.1 _ l3) (X.2.2.2.2.2.1 _ l4) hfr ?_ hcl hs h9 (k p l e s m args below meth c D ad cA A H0 cl sl Qf X hcl hs hA kE H locs ls hN)
  have := gst_cat ad st
  rw [this]
  omega
theorem Tx_min {M : gM} {R : Room} {E : gS → Prop} {pc : Nat} {lv : List (Nat × Value)} {st : List Value} {w : gW} {L : List (Nat × Instr)} {idx : Nat} (hq : gDec M.2.1 L) (i : Nat) (h : L[i]? = some (pc, .invokestatic idx)) (hL : gLM M.1.cls idx) {x y : Int32} (hfr : 1 ≤ R.frames) (hlo : 8 + 13 ≤ R.locals) (hW : (st.map fun v => v.category).sum ≤ 8) (k : Go M R E (pc + 3, lv, .int (gmin x y) :: st, w)) : Go M R E (pc, lv, .int y :: .int x :: st, w) := by
  have h9 := hq.at2 i h rfl
  obtain ⟨l1, l2, l3, l4⟩ := hL
  intro p l e s m args below meth c D ad cA A H0 cl sl Qf X hcl hs hA kE H locs ls hN
  refine va_mmin X.1 X.2.1 (X.2.2.2.1.trans hN.2.2.2.2.1.symm) X.2.2.2.2.1 (X.2.2.2.2.2.1 _ l1) (X.2.2.2.2.2.1 _ l2) (X.2.2.2.2.2.1 _ l3) (X.2.2.2.2.2.1 _ l4) hfr ?_ hcl hs h9 (k p l e s m args below meth c D ad cA A H0 cl sl Qf X hcl hs hA kE H locs ls hN)
  have := gst_cat ad st
  rw [this]
  omega
theorem kcX3_56 : gLC RX3 56 := ⟨gTB_mem 666 (by decide +kernel) rfl, gTB_mem 416 (by decide +kernel) rfl, gTB_mem 415 (by decide +kernel) rfl, gTB_mem 57 (by decide +kernel) rfl⟩
theorem kcX3_88 : gLA RX3 88 := ⟨gTB_mem 660 (by decide +kernel) rfl, gTB_mem 611 (by decide +kernel) rfl, gTB_mem 56 (by decide +kernel) rfl, gTB_mem 612 (by decide +kernel) rfl⟩
theorem kcX4_31 : gLC RX4 31 := ⟨gTB_mem 414 (by decide +kernel) rfl, gTB_mem 416 (by decide +kernel) rfl, gTB_mem 415 (by decide +kernel) rfl, gTB_mem 57 (by decide +kernel) rfl⟩
theorem kcX6_30 : gLC RX6 30 := ⟨gTB_mem 755 (by decide +kernel) rfl, gTB_mem 416 (by decide +kernel) rfl, gTB_mem 415 (by decide +kernel) rfl, gTB_mem 57 (by decide +kernel) rfl⟩
theorem kcX7_53 : gLM RX7 53 := ⟨gTB_mem 391 (by decide +kernel) rfl, gTB_mem 392 (by decide +kernel) rfl, gTB_mem 56 (by decide +kernel) rfl, gTB_mem 393 (by decide +kernel) rfl⟩
theorem kcX8_278 : gLA RX8 278 := ⟨gTB_mem 610 (by decide +kernel) rfl, gTB_mem 611 (by decide +kernel) rfl, gTB_mem 56 (by decide +kernel) rfl, gTB_mem 612 (by decide +kernel) rfl⟩
