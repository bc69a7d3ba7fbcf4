def glook : Nat → List Nat → gW → Option (Nat × gE)
  | k, i :: is, q :: qs => bif i == k then some q else glook k is qs
  | _, _, _ => none
def gput2 : gW → List Nat → gW → Nat → gW
  | [], _, _, _ => []
  | q :: w, is, qs, k => (match glook k is qs with
    | some q' => q'
    | none => q) :: gput2 w is qs (k + 1)
theorem glook_none : ∀ (is : List Nat) (qs : gW) (k : Nat), k ∉ is → glook k is qs = none
  | [], _, _, _ => by simp [glook]
  | i :: is, [], _, _ => by simp [glook]
  | i :: is, q :: qs, k, h => by
    have h1 : (i == k) = false := by
      simp only [beq_eq_false_iff_ne]
      intro e
      exact h (by rw [e]; exact List.mem_cons_self)
    unfold glook
    rw [h1]
    exact glook_none is qs k (fun e => h (List.mem_cons_of_mem _ e))
theorem gput_at : ∀ (is : List Nat) (qs w : gW), va_nd is = true → ∀ k : Nat, (gput w is qs)[k]? = (w[k]?).map (fun q => (glook k is qs).getD q)
  | [], qs, w, _, k => by
    simp [gput, glook]
  | i :: is, [], w, _, k => by
    simp [gput, glook]
  | i :: is, q0 :: qs, w, hn, k => by
    have hn2 : i ∉ is ∧ va_nd is = true := by simpa [va_nd] using hn
    show (gput (w.set i q0) is qs)[k]? = _
    rw [gput_at is qs (w.set i q0) hn2.2 k]
    by_cases hk : i = k
    · subst hk
      rw [glook_none is qs i hn2.1]
      unfold glook
      simp only [beq_self_eq_true, cond_true]
      by_cases hl : i < w.length
      · rw [List.getElem?_set_self hl, List.getElem?_eq_getElem hl]
        rfl
      · rw [List.getElem?_eq_none (by simpa using hl), List.getElem?_eq_none (by simpa using hl)]
        rfl
    · have h1 : (i == k) = false := by simpa using hk
      rw [List.getElem?_set_ne hk]
      conv => rhs; unfold glook
      rw [h1]
      rfl
theorem gput2_at : ∀ (w : gW) (is : List Nat) (qs : gW) (n k : Nat), (gput2 w is qs n)[k]? = (w[k]?).map (fun q => (glook (n + k) is qs).getD q)
  | [], is, qs, n, k => by simp [gput2]
  | q :: w, is, qs, n, 0 => by
    simp only [gput2, List.getElem?_cons_zero, Option.map_some, Nat.add_zero]
    cases glook n is qs <;> rfl
  | q :: w, is, qs, n, k + 1 => by
    simp only [gput2, List.getElem?_cons_succ]
    rw [gput2_at w is qs (n + 1) k, show n + 1 + k = n + (k + 1) by omega]
theorem gput_eq (w : gW) (is : List Nat) (qs : gW) (hn : va_nd is = true) : gput w is qs = gput2 w is qs 0 := by
  apply List.ext_getElem?
  intro k
  rw [gput_at is qs w hn k, gput2_at w is qs 0 k, Nat.zero_add]
theorem Tk_v2 {M M' : gM} {R R' : Room} {E : gS → Prop} {pc : Nat} {lv : List (Nat × Value)} {w w2 w3 : gW} {L : List (Nat × Instr)} {av : List Value} {rr : Option Value} {idx n : Nat} (hq : gDec M.2.1 L) (i : Nat) (h : L[i]? = some (pc, .invokevirtual idx)) {b ci : Nat} {fs : List Value} (hC : Cd M' R' (.ref b :: av) w2 rr w3) {C : String} (hL : gLV M.1.cls idx C M' n) {T : u_T} {N : Nat} (j : Nat) (hb : w2[j]? = some (b, .inr (ci, fs))) (hci : vwCl[ci]? = some (C, T, N)) (r : Nat → Nat) (is : List Nat) (hs : is.map (fun i => w[i]?) = (w2.map (gren r)).map some) (hnd : va_nd is = true) (hk3 : w3.map (fun q => q.1) = w2.map (fun q => q.1)) (hn : av.length = n) (hR : gRoom R R' M'.2.2.1) {st0 : List Value} (st : List Value) (hst : st0 = (av.map (gv r)).reverse ++ .ref (r b) :: st) (hW : (st.map fun v => v.category).sum ≤ 8) (st1 : List Value) (hst1 : (rr.map (gv r)).toList ++ st = st1) (w1 : gW) (hw1 : gput2 w is (w3.map (gren r)) 0 = w1) (k : Go M R E (pc + 3, lv, st1, w1)) : Go M R E (pc, lv, st0, w) :=
  Tk_v hq i h hC hL j hb hci r is hs hnd hk3 hn hR st hst hW st1 hst1 w1 (by rw [gput_eq _ _ _ hnd]; exact hw1) k
