/-! What the generated walks use beside the rules. -/
theorem gpos {c : Prop} [Decidable c] {α : Type} {a b x : α} (h : c) (e : (if c then a else b) = x) : a = x := by
  rw [if_pos h] at e
  exact e
theorem gneg {c : Prop} [Decidable c] {α : Type} {a b x : α} (h : ¬ c) (e : (if c then a else b) = x) : b = x := by
  rw [if_neg h] at e
  exact e
def gr (l : List Nat) (k : Nat) : Nat := (l[k]?).getD k
abbrev grem (a b : Int32) : Int32 := a - a / b * b
abbrev gushr (x y : Int32) : Int32 := (x.toUInt32 >>> (y.toUInt32 &&& Int32.toUInt32 31)).toInt32
abbrev glshl (x : Int64) (y : Int32) : Int64 := x <<< (y.toInt64 &&& 63)
abbrev glshr (x : Int64) (y : Int32) : Int64 := x >>> (y.toInt64 &&& 63)
abbrev glushr (x : Int64) (y : Int32) : Int64 := (x.toUInt64 >>> (y.toInt64.toUInt64 &&& Int64.toUInt64 63)).toInt64
def gN0 : Nat := 100000
abbrev gcp (sp dp n : Int32) (n0 n1 : Nat) : Prop := ¬ sp < 0 ∧ ¬ dp < 0 ∧ ¬ n < 0 ∧ sp.toNatClampNeg + n.toNatClampNeg ≤ n0 ∧ dp.toNatClampNeg + n.toNatClampNeg ≤ n1
def gLC (own : String) (idx : Nat) : Prop := Cond.methodLink own idx arraycopyName ∈ gTB ∧ Cond.native arraycopyName ∈ gTB ∧ Cond.static arraycopyName ∈ gTB ∧ Cond.initialized "java/lang/System" ∈ gTB
theorem gsw_ne {x a b : Int32} (h : x = a) (hn : ¬ a = b) : ¬ x = b := by rw [h]; exact hn
section MoreRules
variable {M : gM} {R : Room} {E : gS → Prop} {pc : Nat} {lv lv' : List (Nat × Value)} {st : List Value} {w : gW} {L : List (Nat × Instr)} {idx : Nat}
theorem Go.loc (ks : List Nat) (h : lv_pick lv ks = lv') (k : Go M R E (pc, lv', st, w)) : Go M R E (pc, lv, st, w) := by
  intro p l e s m args below meth c D ad cA A H0 cl sl Qf X hc hs hA kE H locs ls hI
  refine k p l e s m args below meth c D ad cA A H0 cl sl Qf X hc hs hA kE H locs ls ⟨hI.1, hI.2.1, hI.2.2.1, hI.2.2.2.1, ?_⟩
  refine lv_sub hI.2.2.2.2 ks ?_
  subst h
  show lv_pick (lv.map (gl ad)) ks = (lv_pick lv ks).map (gl ad)
  unfold lv_pick
  rw [List.map_filterMap]
  have e : (fun (k : Nat) => (List.map (gl ad) lv)[k]?) = (fun (k : Nat) => Option.map (gl ad) lv[k]?) := by
    funext k
    rw [List.getElem?_map]
  rw [e]
theorem Go.tswN {x : Int32} {dflt hi : Int} {offs : Array Int} {len : Nat} (hd : decode M.2.1 pc = .ok (.tableswitch dflt 0 hi offs, len)) (td : Nat) (htd : (pc : Int) + dflt = (td : Int)) (ts : List Nat) (hts : offs.toList = ts.map (fun (t : Nat) => (t : Int) - (pc : Int))) (hhi : hi + 1 = (ts.length : Int))
    (ko : (x.toInt < 0 ∨ hi < x.toInt) → Go M R E (td, lv, st, w)) (ki : ∀ (j t : Nat), ts[j]? = some t → x = Int32.ofNat j → Go M R E (t, lv, st, w)) : Go M R E (pc, lv, .int x :: st, w) := by
  refine Go.tsw hd td htd ts ?_ ko ?_
  · intro j hj
    have h1 : j < ts.length := by omega
    refine ⟨(ts[j] : Int) - (pc : Int), ts[j], ?_, List.getElem?_eq_getElem h1, by omega⟩
    rw [← Array.getElem?_toList, hts, List.getElem?_map, List.getElem?_eq_getElem h1]
    rfl
  · intro j t hj hx hl
    refine ki j t hj ?_
    apply Int32.toInt_inj.mp
    have h1 : j < ts.length := (List.getElem?_eq_some_iff.mp hj).1
    have h2 : x.toInt < 2 ^ 31 := Int32.toInt_lt x
    rw [hx, Int32.toInt_ofNat_of_lt (by omega)]
    omega
theorem gx_copy {a0 a1 n0 n1 q0 q1 : Nat} {f g : Nat → Int32} {sp dp n : Int32} (h0 : gfind w a0 0 = some (q0, .inl (0, n0, .inl f))) (h1 : gfind w a1 0 = some (q1, .inl (0, n1, .inl g))) (hL : gLC M.1.cls idx) (hc : gcp sp dp n n0 n1) (hfr : 1 ≤ R.frames) (hlo : 8 + (nativeFrameWords "java/lang/System" "arraycopy" 5 + 11) ≤ R.locals) (hW : (st.map fun v => v.category).sum ≤ 8) (hd : decode M.2.1 pc = .ok (.invokestatic idx, 3)) (k : Go M R E (pc + 3, lv, st, w.set q1 (a1, .inl (0, n1, .inl (va_cpy f g sp.toNatClampNeg dp.toNatClampNeg n.toNatClampNeg))))) : Go M R E (pc, lv, .int n :: .int dp :: .ref a1 :: .int sp :: .ref a0 :: st, w) := by
  intro p l e s m args below meth c D ad cA A H0 cl sl Qf X hcl hs hA kE H locs ls hN
  obtain ⟨l1, l2, l3, l4⟩ := hL
  refine va_copyi (ty := .int) X.1 X.2.1 (X.2.2.2.1.trans hN.2.2.2.2.1.symm) X.2.2.2.2.1 (X.2.2.2.2.2.1 _ l1) (X.2.2.2.2.2.1 _ l2) (X.2.2.2.2.2.1 _ l3) (X.2.2.2.2.2.1 _ l4) hN.1 hN.2.1 hN.2.2.1 hN.2.2.2.1 q0 q1 0 0 (gw_at (gfind_at h0)) (gw_at (gfind_at h1)) rfl rfl rfl hc.1 hc.2.1 hc.2.2.1 hc.2.2.2.1 hc.2.2.2.2 (fun _ _ => rfl) hfr ?_ hd (fun H1 locs1 p1 p2 p3 => ?_)
  · have := gst_cat ad st
    rw [this]
    omega
  · refine k p l e s m args below meth c D ad cA A H0 cl sl Qf X hcl hs hA kE H1 locs1 ls ⟨hN.1, ?_, ?_, p3, hN.2.2.2.2⟩
    · show va_P D vwCl (gw ad cA (w.set q1 _)) H1
      rw [gw_set]
      exact p1
    · show va_D A (gw ad cA (w.set q1 _))
      rw [gw_set]
      exact p2
theorem gx_copyl {a0 a1 n0 n1 q0 q1 : Nat} {f g : Nat → Int64} {sp dp n : Int32} (h0 : gfind w a0 0 = some (q0, .inl (1, n0, .inr (.inl f)))) (h1 : gfind w a1 0 = some (q1, .inl (1, n1, .inr (.inl g)))) (hL : gLC M.1.cls idx) (hc : gcp sp dp n n0 n1) (hfr : 1 ≤ R.frames) (hlo : 8 + (nativeFrameWords "java/lang/System" "arraycopy" 5 + 11) ≤ R.locals) (hW : (st.map fun v => v.category).sum ≤ 8) (hd : decode M.2.1 pc = .ok (.invokestatic idx, 3)) (k : Go M R E (pc + 3, lv, st, w.set q1 (a1, .inl (1, n1, .inr (.inl (va_cpy f g sp.toNatClampNeg dp.toNatClampNeg n.toNatClampNeg)))))) : Go M R E (pc, lv, .int n :: .int dp :: .ref a1 :: .int sp :: .ref a0 :: st, w) := by
  intro p l e s m args below meth c D ad cA A H0 cl sl Qf X hcl hs hA kE H locs ls hN
  obtain ⟨l1, l2, l3, l4⟩ := hL
  refine va_copyl (ty := .long) X.1 X.2.1 (X.2.2.2.1.trans hN.2.2.2.2.1.symm) X.2.2.2.2.1 (X.2.2.2.2.2.1 _ l1) (X.2.2.2.2.2.1 _ l2) (X.2.2.2.2.2.1 _ l3) (X.2.2.2.2.2.1 _ l4) hN.1 hN.2.1 hN.2.2.1 hN.2.2.2.1 q0 q1 1 1 (gw_at (gfind_at h0)) (gw_at (gfind_at h1)) rfl rfl rfl hc.1 hc.2.1 hc.2.2.1 hc.2.2.2.1 hc.2.2.2.2 (fun _ _ => rfl) hfr ?_ hd (fun H1 locs1 p1 p2 p3 => ?_)
  · have := gst_cat ad st
    rw [this]
    omega
  · refine k p l e s m args below meth c D ad cA A H0 cl sl Qf X hcl hs hA kE H1 locs1 ls ⟨hN.1, ?_, ?_, p3, hN.2.2.2.2⟩
    · show va_P D vwCl (gw ad cA (w.set q1 _)) H1
      rw [gw_set]
      exact p1
    · show va_D A (gw ad cA (w.set q1 _))
      rw [gw_set]
      exact p2
theorem Tx_i (hq : gDec M.2.1 L) (i : Nat) (h : L[i]? = some (pc, .invokestatic idx)) (hL : gLC M.1.cls idx) {a0 a1 n0 n1 q0 q1 : Nat} {f g : Nat → Int32} {sp dp n : Int32} (h0 : gfind w a0 0 = some (q0, .inl (0, n0, .inl f))) (h1 : gfind w a1 0 = some (q1, .inl (0, n1, .inl g))) (hc : gcp sp dp n n0 n1) (hfr : 1 ≤ R.frames) (hlo : 8 + (nativeFrameWords "java/lang/System" "arraycopy" 5 + 11) ≤ R.locals) (hW : (st.map fun v => v.category).sum ≤ 8) (w1 : gW) (hw : w.set q1 (a1, .inl (0, n1, .inl (va_cpy f g sp.toNatClampNeg dp.toNatClampNeg n.toNatClampNeg))) = w1) (k : Go M R E (pc + 3, lv, st, w1)) : Go M R E (pc, lv, .int n :: .int dp :: .ref a1 :: .int sp :: .ref a0 :: st, w) := by
  have h9 := hq.at2 i h rfl
  subst hw
  exact gx_copy h0 h1 hL hc hfr hlo hW h9 k
theorem Tx_l (hq : gDec M.2.1 L) (i : Nat) (h : L[i]? = some (pc, .invokestatic idx)) (hL : gLC M.1.cls idx) {a0 a1 n0 n1 q0 q1 : Nat} {f g : Nat → Int64} {sp dp n : Int32} (h0 : gfind w a0 0 = some (q0, .inl (1, n0, .inr (.inl f)))) (h1 : gfind w a1 0 = some (q1, .inl (1, n1, .inr (.inl g)))) (hc : gcp sp dp n n0 n1) (hfr : 1 ≤ R.frames) (hlo : 8 + (nativeFrameWords "java/lang/System" "arraycopy" 5 + 11) ≤ R.locals) (hW : (st.map fun v => v.category).sum ≤ 8) (w1 : gW) (hw : w.set q1 (a1, .inl (1, n1, .inr (.inl (va_cpy f g sp.toNatClampNeg dp.toNatClampNeg n.toNatClampNeg)))) = w1) (k : Go M R E (pc + 3, lv, st, w1)) : Go M R E (pc, lv, .int n :: .int dp :: .ref a1 :: .int sp :: .ref a0 :: st, w) := by
  have h9 := hq.at2 i h rfl
  subst hw
  exact gx_copyl h0 h1 hL hc hfr hlo hW h9 k
end MoreRules
theorem kcX3_56 : gLC RX3 56 := ⟨gTB_mem 666 (by decide +kernel) rfl, gTB_mem 416 (by decide +kernel) rfl, gTB_mem 415 (by decide +kernel) rfl, gTB_mem 57 (by decide +kernel) rfl⟩
theorem kcX4_31 : gLC RX4 31 := ⟨gTB_mem 414 (by decide +kernel) rfl, gTB_mem 416 (by decide +kernel) rfl, gTB_mem 415 (by decide +kernel) rfl, gTB_mem 57 (by decide +kernel) rfl⟩
theorem kcX6_30 : gLC RX6 30 := ⟨gTB_mem 755 (by decide +kernel) rfl, gTB_mem 416 (by decide +kernel) rfl, gTB_mem 415 (by decide +kernel) rfl, gTB_mem 57 (by decide +kernel) rfl⟩
