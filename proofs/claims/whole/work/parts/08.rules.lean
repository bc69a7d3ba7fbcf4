/-! The rules of branches, ends and calls over a method's own list of instructions. -/
theorem gDec.at2 {cc : ByteArray} {L : List (Nat × Instr)} (hd : gDec cc L) (i : Nat) {pc len : Nat} {ins : Instr} (h : L[i]? = some (pc, ins)) (hl : glen ins = len) : decode cc pc = .ok (ins, len) := by
  rw [← hl]
  exact hd (pc, ins) (List.mem_of_getElem? h)
section TableRules
variable {M M' : gM} {R R' : Room} {E : gS → Prop} {pc : Nat} {lv : List (Nat × Value)} {st : List Value} {w w2 w3 : gW} {L : List (Nat × Instr)} {av : List Value} {rr : Option Value} {idx n : Nat}
theorem Ti_lt (hq : gDec M.2.1 L) (i : Nat) (off : Int) (tgt : Nat) (h : L[i]? = some (pc, .ifCond .lt off)) (ht : (pc : Int) + off = (tgt : Int)) {x : Int32} (kt : x < 0 → Go M R E (tgt, lv, st, w)) (kf : ¬ x < 0 → Go M R E (pc + 3, lv, st, w)) : Go M R E (pc, lv, .int x :: st, w) := by
  have h9 := hq.at2 i h rfl
  exact Go.if_lt tgt h9 ht kt kf
theorem Ti_ge (hq : gDec M.2.1 L) (i : Nat) (off : Int) (tgt : Nat) (h : L[i]? = some (pc, .ifCond .ge off)) (ht : (pc : Int) + off = (tgt : Int)) {x : Int32} (kt : 0 ≤ x → Go M R E (tgt, lv, st, w)) (kf : ¬ 0 ≤ x → Go M R E (pc + 3, lv, st, w)) : Go M R E (pc, lv, .int x :: st, w) := by
  have h9 := hq.at2 i h rfl
  exact Go.if_ge tgt h9 ht kt kf
theorem Ti_gt (hq : gDec M.2.1 L) (i : Nat) (off : Int) (tgt : Nat) (h : L[i]? = some (pc, .ifCond .gt off)) (ht : (pc : Int) + off = (tgt : Int)) {x : Int32} (kt : 0 < x → Go M R E (tgt, lv, st, w)) (kf : ¬ 0 < x → Go M R E (pc + 3, lv, st, w)) : Go M R E (pc, lv, .int x :: st, w) := by
  have h9 := hq.at2 i h rfl
  exact Go.if_gt tgt h9 ht kt kf
theorem Ti_le (hq : gDec M.2.1 L) (i : Nat) (off : Int) (tgt : Nat) (h : L[i]? = some (pc, .ifCond .le off)) (ht : (pc : Int) + off = (tgt : Int)) {x : Int32} (kt : x ≤ 0 → Go M R E (tgt, lv, st, w)) (kf : ¬ x ≤ 0 → Go M R E (pc + 3, lv, st, w)) : Go M R E (pc, lv, .int x :: st, w) := by
  have h9 := hq.at2 i h rfl
  exact Go.if_le tgt h9 ht kt kf
theorem Ti_eq (hq : gDec M.2.1 L) (i : Nat) (off : Int) (tgt : Nat) (h : L[i]? = some (pc, .ifCond .eq off)) (ht : (pc : Int) + off = (tgt : Int)) {x : Int32} (kt : x = 0 → Go M R E (tgt, lv, st, w)) (kf : ¬ x = 0 → Go M R E (pc + 3, lv, st, w)) : Go M R E (pc, lv, .int x :: st, w) := by
  have h9 := hq.at2 i h rfl
  exact Go.if_eq tgt h9 ht kt kf
theorem Ti_ne (hq : gDec M.2.1 L) (i : Nat) (off : Int) (tgt : Nat) (h : L[i]? = some (pc, .ifCond .ne off)) (ht : (pc : Int) + off = (tgt : Int)) {x : Int32} (kt : ¬ x = 0 → Go M R E (tgt, lv, st, w)) (kf : x = 0 → Go M R E (pc + 3, lv, st, w)) : Go M R E (pc, lv, .int x :: st, w) := by
  have h9 := hq.at2 i h rfl
  exact Go.if_ne tgt h9 ht kt kf
theorem Tc_lt (hq : gDec M.2.1 L) (i : Nat) (off : Int) (tgt : Nat) (h : L[i]? = some (pc, .if_icmp .lt off)) (ht : (pc : Int) + off = (tgt : Int)) {x y : Int32} (kt : x < y → Go M R E (tgt, lv, st, w)) (kf : ¬ x < y → Go M R E (pc + 3, lv, st, w)) : Go M R E (pc, lv, .int y :: .int x :: st, w) := by
  have h9 := hq.at2 i h rfl
  exact Go.icmp_lt tgt h9 ht kt kf
theorem Tc_ge (hq : gDec M.2.1 L) (i : Nat) (off : Int) (tgt : Nat) (h : L[i]? = some (pc, .if_icmp .ge off)) (ht : (pc : Int) + off = (tgt : Int)) {x y : Int32} (kt : y ≤ x → Go M R E (tgt, lv, st, w)) (kf : ¬ y ≤ x → Go M R E (pc + 3, lv, st, w)) : Go M R E (pc, lv, .int y :: .int x :: st, w) := by
  have h9 := hq.at2 i h rfl
  exact Go.icmp_ge tgt h9 ht kt kf
theorem Tc_gt (hq : gDec M.2.1 L) (i : Nat) (off : Int) (tgt : Nat) (h : L[i]? = some (pc, .if_icmp .gt off)) (ht : (pc : Int) + off = (tgt : Int)) {x y : Int32} (kt : y < x → Go M R E (tgt, lv, st, w)) (kf : ¬ y < x → Go M R E (pc + 3, lv, st, w)) : Go M R E (pc, lv, .int y :: .int x :: st, w) := by
  have h9 := hq.at2 i h rfl
  exact Go.icmp_gt tgt h9 ht kt kf
theorem Tc_le (hq : gDec M.2.1 L) (i : Nat) (off : Int) (tgt : Nat) (h : L[i]? = some (pc, .if_icmp .le off)) (ht : (pc : Int) + off = (tgt : Int)) {x y : Int32} (kt : x ≤ y → Go M R E (tgt, lv, st, w)) (kf : ¬ x ≤ y → Go M R E (pc + 3, lv, st, w)) : Go M R E (pc, lv, .int y :: .int x :: st, w) := by
  have h9 := hq.at2 i h rfl
  exact Go.icmp_le tgt h9 ht kt kf
theorem Tc_eq (hq : gDec M.2.1 L) (i : Nat) (off : Int) (tgt : Nat) (h : L[i]? = some (pc, .if_icmp .eq off)) (ht : (pc : Int) + off = (tgt : Int)) {x y : Int32} (kt : x = y → Go M R E (tgt, lv, st, w)) (kf : ¬ x = y → Go M R E (pc + 3, lv, st, w)) : Go M R E (pc, lv, .int y :: .int x :: st, w) := by
  have h9 := hq.at2 i h rfl
  exact Go.icmp_eq tgt h9 ht kt kf
theorem Tc_ne (hq : gDec M.2.1 L) (i : Nat) (off : Int) (tgt : Nat) (h : L[i]? = some (pc, .if_icmp .ne off)) (ht : (pc : Int) + off = (tgt : Int)) {x y : Int32} (kt : ¬ x = y → Go M R E (tgt, lv, st, w)) (kf : x = y → Go M R E (pc + 3, lv, st, w)) : Go M R E (pc, lv, .int y :: .int x :: st, w) := by
  have h9 := hq.at2 i h rfl
  exact Go.icmp_ne tgt h9 ht kt kf
theorem Tn_y (hq : gDec M.2.1 L) (i : Nat) (off : Int) (tgt : Nat) (h : L[i]? = some (pc, .ifnull off)) (ht : (pc : Int) + off = (tgt : Int)) (k : Go M R E (tgt, lv, st, w)) : Go M R E (pc, lv, .null :: st, w) := by
  have h9 := hq.at2 i h rfl
  exact Go.ifnull_y tgt h9 ht k
theorem Tn_n (hq : gDec M.2.1 L) (i : Nat) (off : Int) (h : L[i]? = some (pc, .ifnull off)) {a : Nat} (k : Go M R E (pc + 3, lv, st, w)) : Go M R E (pc, lv, .ref a :: st, w) := by
  have h9 := hq.at2 i h rfl
  exact Go.ifnull_n h9 k
theorem To_n (hq : gDec M.2.1 L) (i : Nat) (off : Int) (h : L[i]? = some (pc, .ifnonnull off)) (k : Go M R E (pc + 3, lv, st, w)) : Go M R E (pc, lv, .null :: st, w) := by
  have h9 := hq.at2 i h rfl
  exact Go.ifnonnull_n h9 k
theorem To_y (hq : gDec M.2.1 L) (i : Nat) (off : Int) (tgt : Nat) (h : L[i]? = some (pc, .ifnonnull off)) (ht : (pc : Int) + off = (tgt : Int)) {a : Nat} (k : Go M R E (tgt, lv, st, w)) : Go M R E (pc, lv, .ref a :: st, w) := by
  have h9 := hq.at2 i h rfl
  exact Go.ifnonnull_y tgt h9 ht k
/-- the ends -/
theorem Tr_i {Q : Option Value → gW → Prop} (hq : gDec M.2.1 L) (i : Nat) (h : L[i]? = some (pc, .ireturn)) (hr : M.2.2.2 = some .int) {v : Int32} (hv : Q (some (.int v)) w) : Go M R (gRet M Q) (pc, lv, [.int v], w) := by
  refine Go.exit ?_
  unfold gRet
  rw [hr]
  have h9 := hq.at2 i h rfl
  exact ⟨h9, hv⟩
theorem Tr_z {Q : Option Value → gW → Prop} (hq : gDec M.2.1 L) (i : Nat) (h : L[i]? = some (pc, .ireturn)) (hr : M.2.2.2 = some .boolean) {v : Int32} (hz : v &&& 1 = v) (hv : Q (some (.int v)) w) : Go M R (gRet M Q) (pc, lv, [.int v], w) := by
  refine Go.exit ?_
  unfold gRet
  rw [hr]
  have h9 := hq.at2 i h rfl
  exact ⟨h9, hz, hv⟩
theorem Tr_l {Q : Option Value → gW → Prop} (hq : gDec M.2.1 L) (i : Nat) (h : L[i]? = some (pc, .lreturn)) (hr : M.2.2.2 = some .long) {v : Int64} (hv : Q (some (.long v)) w) : Go M R (gRet M Q) (pc, lv, [.long v], w) := by
  refine Go.exit ?_
  unfold gRet
  rw [hr]
  have h9 := hq.at2 i h rfl
  exact ⟨h9, hv⟩
theorem Tr_v {Q : Option Value → gW → Prop} (hq : gDec M.2.1 L) (i : Nat) (h : L[i]? = some (pc, .return_)) (hr : M.2.2.2 = none) (hv : Q none w) : Go M R (gRet M Q) (pc, lv, [], w) := by
  refine Go.exit ?_
  unfold gRet
  rw [hr]
  have h9 := hq.at2 i h rfl
  exact ⟨h9, hv⟩
theorem Tr_a {Q : Option Value → gW → Prop} (hq : gDec M.2.1 L) (i : Nat) (h : L[i]? = some (pc, .areturn)) {C : String} (hr : M.2.2.2 = some (.object C)) {a : Nat} (hv : Q (some (.ref a)) w) : Go M R (gRet M Q) (pc, lv, [.ref a], w) := by
  refine Go.exit ?_
  unfold gRet
  rw [hr]
  have h9 := hq.at2 i h rfl
  exact ⟨h9, hv⟩
theorem Tr_n {Q : Option Value → gW → Prop} (hq : gDec M.2.1 L) (i : Nat) (h : L[i]? = some (pc, .areturn)) {C : String} (hr : M.2.2.2 = some (.object C)) (hv : Q (some .null) w) : Go M R (gRet M Q) (pc, lv, [.null], w) := by
  refine Go.exit ?_
  unfold gRet
  rw [hr]
  have h9 := hq.at2 i h rfl
  exact ⟨h9, hv⟩
/-- calls: the stack and the world behind it are told, and checked -/
theorem Tk_s (hq : gDec M.2.1 L) (i : Nat) (h : L[i]? = some (pc, .invokestatic idx)) (hC : Cd M' R' av w2 rr w3) (hL : gLS M.1.cls idx M' n) (r : Nat → Nat) (is : List Nat) (hs : is.map (fun i => w[i]?) = (w2.map (gren r)).map some) (hnd : va_nd is = true) (hk3 : w3.map (fun q => q.1) = w2.map (fun q => q.1)) (hn : av.length = n) (hR : gRoom R R' M'.2.2.1) {st0 : List Value} (st : List Value) (hst : st0 = (av.map (gv r)).reverse ++ st) (hW : (st.map fun v => v.category).sum ≤ 8) (st1 : List Value) (hst1 : (rr.map (gv r)).toList ++ st = st1) (w1 : gW) (hw1 : gput w is (w3.map (gren r)) = w1) (k : Go M R E (pc + 3, lv, st1, w1)) : Go M R E (pc, lv, st0, w) := by
  subst hst; subst hst1; subst hw1
  have h9 := hq.at2 i h rfl
  exact Go.callS hC hL r is hs hnd hk3 hn hR hW h9 k
theorem Tk_n (hq : gDec M.2.1 L) (i : Nat) (h : L[i]? = some (pc, .invokestatic idx)) (hC : Cd M' R' av w2 rr w3) {host : String} (hL : gLN M.1.cls idx host M' n) (r : Nat → Nat) (is : List Nat) (hs : is.map (fun i => w[i]?) = (w2.map (gren r)).map some) (hnd : va_nd is = true) (hk3 : w3.map (fun q => q.1) = w2.map (fun q => q.1)) (hn : av.length = n) (hR : gRoom R R' M'.2.2.1) {st0 : List Value} (st : List Value) (hst : st0 = (av.map (gv r)).reverse ++ st) (hW : (st.map fun v => v.category).sum ≤ 8) (st1 : List Value) (hst1 : (rr.map (gv r)).toList ++ st = st1) (w1 : gW) (hw1 : gput w is (w3.map (gren r)) = w1) (k : Go M R E (pc + 3, lv, st1, w1)) : Go M R E (pc, lv, st0, w) := by
  subst hst; subst hst1; subst hw1
  have h9 := hq.at2 i h rfl
  exact Go.callN hC hL r is hs hnd hk3 hn hR hW h9 k
theorem Tk_v (hq : gDec M.2.1 L) (i : Nat) (h : L[i]? = some (pc, .invokevirtual idx)) {b ci : Nat} {fs : List Value} (hC : Cd M' R' (.ref b :: av) w2 rr w3) {C : String} (hL : gLV M.1.cls idx C M' n) {T : u_T} {N : Nat} (j : Nat) (hb : w2[j]? = some (b, .inr (ci, fs))) (hci : vwCl[ci]? = some (C, T, N)) (r : Nat → Nat) (is : List Nat) (hs : is.map (fun i => w[i]?) = (w2.map (gren r)).map some) (hnd : va_nd is = true) (hk3 : w3.map (fun q => q.1) = w2.map (fun q => q.1)) (hn : av.length = n) (hR : gRoom R R' M'.2.2.1) {st0 : List Value} (st : List Value) (hst : st0 = (av.map (gv r)).reverse ++ .ref (r b) :: st) (hW : (st.map fun v => v.category).sum ≤ 8) (st1 : List Value) (hst1 : (rr.map (gv r)).toList ++ st = st1) (w1 : gW) (hw1 : gput w is (w3.map (gren r)) = w1) (k : Go M R E (pc + 3, lv, st1, w1)) : Go M R E (pc, lv, st0, w) := by
  subst hst; subst hst1; subst hw1
  have h9 := hq.at2 i h rfl
  exact Go.callV hC hL j hb hci r is hs hnd hk3 hn hR hW h9 k
theorem Tk_u (hq : gDec M.2.1 L) (i : Nat) (h : L[i]? = some (pc, .invokevirtual idx)) {b ci : Nat} {fs : List Value} (hC : Cd M' R' (.ref b :: av) w2 rr w3) {C : String} {x : MethodName} (hL : gLU M.1.cls idx C x M' n) {T : u_T} {N : Nat} (j : Nat) (hb : w2[j]? = some (b, .inr (ci, fs))) (hci : vwCl[ci]? = some (C, T, N)) (r : Nat → Nat) (is : List Nat) (hs : is.map (fun i => w[i]?) = (w2.map (gren r)).map some) (hnd : va_nd is = true) (hk3 : w3.map (fun q => q.1) = w2.map (fun q => q.1)) (hn : av.length = n) (hR : gRoom R R' M'.2.2.1) {st0 : List Value} (st : List Value) (hst : st0 = (av.map (gv r)).reverse ++ .ref (r b) :: st) (hW : (st.map fun v => v.category).sum ≤ 8) (st1 : List Value) (hst1 : (rr.map (gv r)).toList ++ st = st1) (w1 : gW) (hw1 : gput w is (w3.map (gren r)) = w1) (k : Go M R E (pc + 3, lv, st1, w1)) : Go M R E (pc, lv, st0, w) := by
  subst hst; subst hst1; subst hw1
  have h9 := hq.at2 i h rfl
  exact Go.callU hC hL j hb hci r is hs hnd hk3 hn hR hW h9 k
end TableRules
theorem gif {c : Prop} [Decidable c] {α : Type} {x : Option α} {r : α} (h : (if c then x else none) = some r) : c ∧ x = some r := by
  by_cases hc : c
  · rw [if_pos hc] at h
    exact ⟨hc, h⟩
  · rw [if_neg hc] at h
    cases h
theorem gbind {α β : Type} {x : Option α} {f : α → Option β} {r : β} (h : x.bind f = some r) : ∃ a, x = some a ∧ f a = some r := by
  cases x with
  | none => cases h
  | some a => exact ⟨a, rfl, h⟩
