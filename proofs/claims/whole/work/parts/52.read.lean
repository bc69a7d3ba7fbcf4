/-! Reading the tape: class and model side by side. -/
def skp (tb : Nat → Int32) : Nat → Nat → Nat
  | 0, p => p
  | d + 1, p => if tb p = 32 then skp tb d (p + 1) else p
theorem skp_spec {tb : Nat → Int32} : ∀ (d p : Nat), p ≤ skp tb d p ∧ skp tb d p ≤ p + d ∧ (skp tb d p = p + d ∨ tb (skp tb d p) ≠ 32)
  | 0, p => ⟨Nat.le_refl _, Nat.le_refl _, Or.inl rfl⟩
  | d + 1, p => by
    unfold skp
    by_cases h : tb p = 32
    · rw [if_pos h]
      have ih := skp_spec (tb := tb) d (p + 1)
      refine ⟨by omega, by omega, ?_⟩
      rcases ih.2.2 with e | e
      · exact Or.inl (by omega)
      · exact Or.inr e
    · rw [if_neg h]
      exact ⟨Nat.le_refl _, by omega, Or.inr h⟩
def sk (tb : Nat → Int32) (n p : Nat) : Nat := skp tb (n - p) p
theorem sk_spec {tb : Nat → Int32} {n p : Nat} (h : p ≤ n) : p ≤ sk tb n p ∧ sk tb n p ≤ n ∧ (sk tb n p = n ∨ tb (sk tb n p) ≠ 32) := by
  have s := skp_spec (tb := tb) (n - p) p
  unfold sk
  refine ⟨s.1, by omega, ?_⟩
  rcases s.2.2 with e | e
  · exact Or.inl (by omega)
  · exact Or.inr e
theorem sk_stop {tb : Nat → Int32} {n p : Nat} (h : p = n ∨ tb p ≠ 32) : sk tb n p = p := by
  unfold sk
  rcases h with rfl | h
  · rw [Nat.sub_self]
    rfl
  · cases e : n - p with
    | zero => rfl
    | succ d =>
      unfold skp
      rw [if_neg h]
def nx (tb : Nat → Int32) (n p : Nat) (e : Int32) : Int32 := if sk tb n p < n then tb (sk tb n p) else e
section Read
variable {n : Nat} {tb : Nat → Int32}
theorem next_loop (hn : n ≤ 100) (kk : Int32 → Option (Int32 × Int32)) : ∀ (d p fu : Nat), p + d = n → d < fu → FL_X7_next_0 (nI n) tb kk fu (nI p) = kk (nI (skp tb d p))
  | 0, p, fu + 1, hp, _ => by
    have e : p = n := by omega
    subst e
    unfold FL_X7_next_0
    rw [if_pos (nI_le (Nat.le_refl _) (by omega))]
    rfl
  | d + 1, p, fu + 1, hp, hfu => by
    have ih := next_loop hn kk d (p + 1) fu (by omega) (by omega)
    have c1 : (nI p).toNatClampNeg = p := nI_clamp (by omega)
    unfold FL_X7_next_0 skp
    simp only [if_neg (nI_ge (a := p) (b := n) (by omega) (by omega)), if_pos (show gvp (nI p) 100 from gvp_nI (by omega) (by omega)), c1, nI_1]
    by_cases h : tb p = 32
    · rw [if_pos h, if_pos h]
      exact ih
    · rw [if_neg h, if_neg h]
theorem here_loop (hn : n ≤ 100) (kk : Int32 → Option (Int32 × Int32)) : ∀ (d p fu : Nat), p + d = n → d < fu → FL_X9_here_0 (nI n) tb kk fu (nI p) = kk (nI (skp tb d p))
  | 0, p, fu + 1, hp, _ => by
    have e : p = n := by omega
    subst e
    unfold FL_X9_here_0
    rw [if_pos (nI_le (Nat.le_refl _) (by omega))]
    rfl
  | d + 1, p, fu + 1, hp, hfu => by
    have ih := here_loop hn kk d (p + 1) fu (by omega) (by omega)
    have c1 : (nI p).toNatClampNeg = p := nI_clamp (by omega)
    unfold FL_X9_here_0 skp
    simp only [if_neg (nI_ge (a := p) (b := n) (by omega) (by omega)), if_pos (show gvp (nI p) 100 from gvp_nI (by omega) (by omega)), c1, nI_1]
    by_cases h : tb p = 32
    · rw [if_pos h, if_pos h]
      exact ih
    · rw [if_neg h, if_neg h]
theorem next_cls (hn : n ≤ 100) {p : Nat} (hp : p ≤ n) : F_X7_next (nI n) (nI p) tb = some (nx tb n p (-1), nI (sk tb n p)) := by
  have hg := gN0_big
  have s := sk_spec (tb := tb) hp
  unfold F_X7_next
  rw [next_loop hn _ (n - p) p gN0 (by omega) (by omega)]
  rw [show skp tb (n - p) p = sk tb n p from rfl]
  unfold nx
  by_cases h : sk tb n p < n
  · rw [if_pos h, if_neg (nI_ge h (by omega)), if_pos (show gvp (nI (sk tb n p)) 100 from gvp_nI (by omega) (by omega)), nI_clamp (n := sk tb n p) (by omega)]
  · rw [if_neg h, if_pos (nI_le (show n ≤ sk tb n p by omega) (by omega))]
theorem here_mod (hn : n ≤ 100) {p : Nat} (hp : p ≤ n) : F_X9_here (nI n) (nI p) tb = some (nx tb n p 0, nI (sk tb n p)) := by
  have hg := gN0_big
  have s := sk_spec (tb := tb) hp
  unfold F_X9_here
  rw [here_loop hn _ (n - p) p gN0 (by omega) (by omega)]
  rw [show skp tb (n - p) p = sk tb n p from rfl]
  unfold nx
  by_cases h : sk tb n p < n
  · rw [if_pos h, if_neg (nI_ge h (by omega)), if_pos (show gvp (nI (sk tb n p)) 100 from gvp_nI (by omega) (by omega)), nI_clamp (n := sk tb n p) (by omega)]
  · rw [if_neg h, if_pos (nI_le (show n ≤ sk tb n p by omega) (by omega))]
theorem flt {p : Nat} (h : p ≤ 100) : (-20 - nI p).toInt = -20 - p := by
  rw [fb_subI] <;> rw [nI_toInt (by omega), show (-20 : Int32).toInt = -20 from rfl] <;> omega
theorem flt_ne {p : Nat} (h : p ≤ 100) : ¬ (-20 - nI p = 0) := by
  rw [gI_eq, flt h, i0]
  omega
theorem flt_lt {p : Nat} (h : p ≤ 100) : ¬ (0 ≤ -20 - nI p) := by
  rw [gI_le, flt h, i0]
  omega
/-- class and model read at one place without fault, or know of the same fault -/
def QR (n : Nat) (tb : Nat → Int32) (tp tl at_ wr : Int32) : Prop := ∃ p c : Nat, p ≤ n ∧ c ≤ n ∧ at_ = nI p ∧ tp = nI c ∧ ((wr = 0 ∧ tl = 0 ∧ c = p) ∨ (wr = 1 ∧ tl = -20 - nI p ∧ (p = n ∨ tb p ≠ 32)))
theorem QR.ok {p : Nat} (hp : p ≤ n) : QR n tb (nI p) 0 (nI p) 0 := ⟨p, p, hp, hp, rfl, rfl, Or.inl ⟨rfl, rfl, rfl⟩⟩
theorem QR.bad {p c : Nat} (hp : p ≤ n) (hc : c ≤ n) (h : p = n ∨ tb p ≠ 32) : QR n tb (nI c) (-20 - nI p) (nI p) 1 := ⟨p, c, hp, hc, rfl, rfl, Or.inr ⟨rfl, rfl, h⟩⟩
theorem add0 (p : Nat) : nI p + 0 = nI p := nI_add p 0
/-- reading a sign where no fault is -/
theorem takes_0 (hn : n ≤ 100) {p : Nat} (hp : p ≤ n) {c : Int32} (h0 : ¬ c = 0) (h1 : ¬ c = -1) : (F_X7_takes (nI n) (nI p) 0 tb c = some (1, nI (sk tb n p + 1)) ∧ F_X9_has (nI n) (nI p) 0 tb c = some (1, nI (sk tb n p + 1)) ∧ sk tb n p + 1 ≤ n) ∨ (F_X7_takes (nI n) (nI p) 0 tb c = some (0, nI (sk tb n p)) ∧ F_X9_has (nI n) (nI p) 0 tb c = some (0, nI (sk tb n p))) := by
  have s := sk_spec (tb := tb) hp
  unfold F_X7_takes F_X9_has
  rw [if_pos rfl, if_pos rfl, next_cls hn hp, here_mod hn hp]
  simp only [Option.bind_some, nI_1, add0]
  unfold nx
  by_cases h : sk tb n p < n
  · simp only [if_pos h]
    by_cases e : tb (sk tb n p) = c
    · simp only [if_pos e]
      exact Or.inl ⟨(by first | rfl | trivial), (by first | rfl | trivial), h⟩
    · simp only [if_neg e]
      exact Or.inr ⟨(by first | rfl | trivial), (by first | rfl | trivial)⟩
  · simp only [if_neg h]
    rw [if_neg (fun e => h1 e.symm), if_neg (fun e => h0 e.symm)]
    exact Or.inr ⟨rfl, rfl⟩
theorem takes_1 {tp tl : Int32} (h : ¬ tl = 0) (c : Int32) : F_X7_takes (nI n) tp tl tb c = some (0, tp) := by
  unfold F_X7_takes
  rw [if_neg h]
theorem has_1 {p : Nat} (c : Int32) : F_X9_has (nI n) (nI p) 1 tb c = some (0, nI p) := by
  unfold F_X9_has
  rw [if_neg (by decide), add0]
theorem fail_1 {tl : Int32} (h : ¬ tl = 0) (b : Int32) : F_X7_failAt tl b = some tl := by
  unfold F_X7_failAt
  rw [if_neg h]
theorem fail_0 (b : Int32) : F_X7_failAt 0 b = some (-20 - b) := by
  unfold F_X7_failAt
  rw [if_pos rfl]
theorem needs_1 {tp tl : Int32} (h : ¬ tl = 0) (c : Int32) : F_X7_needs (nI n) tp tl tb c = some (tp, tl) := by
  unfold F_X7_needs
  rw [takes_1 h]
  simp only [Option.bind_some, if_true]
  rw [fail_1 h]
  rfl
theorem QR.takes (hn : n ≤ 100) {tp tl at_ wr : Int32} (h : QR n tb tp tl at_ wr) {c : Int32} (h0 : ¬ c = 0) (h1 : ¬ c = -1) : ∃ (b : Bool) (tp' at' : Int32), F_X7_takes (nI n) tp tl tb c = some (gB b, tp') ∧ F_X9_has (nI n) at_ wr tb c = some (gB b, at') ∧ QR n tb tp' tl at' wr ∧ (b = true → wr = 0) := by
  obtain ⟨p, k, hp, hk, rfl, rfl, ⟨rfl, rfl, rfl⟩ | ⟨rfl, rfl, hs⟩⟩ := h
  · rcases takes_0 (tb := tb) hn hp h0 h1 with ⟨e1, e2, e3⟩ | ⟨e1, e2⟩
    · exact ⟨true, _, _, e1, e2, QR.ok e3, fun _ => rfl⟩
    · exact ⟨false, _, _, e1, e2, QR.ok (sk_spec hp).2.1, fun _ => rfl⟩
  · exact ⟨false, _, _, takes_1 (flt_ne (by omega)) c, has_1 c, QR.bad hp hk hs, fun e => Bool.noConfusion e⟩
theorem QR.comma (hn : n ≤ 100) {tp tl at_ wr : Int32} (h : QR n tb tp tl at_ wr) : ∃ (tp' tl' at' wr' : Int32), F_X7_needs (nI n) tp tl tb 44 = some (tp', tl') ∧ F_X9_comma (nI n) at_ wr tb = some (at', wr') ∧ QR n tb tp' tl' at' wr' := by
  obtain ⟨p, k, hp, hk, rfl, rfl, ⟨rfl, rfl, rfl⟩ | ⟨rfl, rfl, hs⟩⟩ := h
  · have s := sk_spec (tb := tb) hp
    unfold F_X7_needs F_X9_comma
    rcases takes_0 (tb := tb) hn hp (c := 44) (by decide) (by decide) with ⟨e1, e2, e3⟩ | ⟨e1, e2⟩
    · rw [e1, e2]
      exact ⟨_, _, _, _, rfl, rfl, QR.ok e3⟩
    · rw [e1, e2]
      simp only [Option.bind_some, if_true]
      rw [fail_0]
      exact ⟨_, _, _, _, rfl, rfl, QR.bad s.2.1 s.2.1 s.2.2⟩
  · refine ⟨_, _, _, _, needs_1 (flt_ne (by omega)) 44, ?_, QR.bad hp hk hs⟩
    unfold F_X9_comma
    rw [has_1]
    rfl
theorem readDigit_1 {tp tl : Int32} (h : ¬ tl = 0) (m : Int32) : F_X7_readDigit (nI n) tp tl tb m = some (0, tp, tl) := by
  unfold F_X7_readDigit
  rw [if_neg h, fail_1 h]
  rfl
theorem digit_1 {p : Nat} (m : Int32) : F_X9_digit (nI n) (nI p) 1 tb m = some (0, nI p, 1) := by
  unfold F_X9_digit
  rw [if_neg (by decide), add0]
/-- a digit where no fault is -/
theorem digit_0 (hn : n ≤ 100) (hb : ∀ i, i < n → Rg (tb i) 32 126) {p : Nat} (hp : p ≤ n) {m : Int32} (hm : Rg m (-1) 9) : (∃ v : Nat, (v : Int) ≤ m.toInt ∧ sk tb n p + 1 ≤ n ∧ tb (sk tb n p) = nI (48 + v) ∧ F_X7_readDigit (nI n) (nI p) 0 tb m = some (nI v, nI (sk tb n p + 1), 0) ∧ F_X9_digit (nI n) (nI p) 0 tb m = some (nI v, nI (sk tb n p + 1), 0)) ∨ ((inb (nx tb n p 0).toInt 48 (48 + m.toInt) = false) ∧ F_X7_readDigit (nI n) (nI p) 0 tb m = some (0, nI (sk tb n p), -20 - nI (sk tb n p)) ∧ F_X9_digit (nI n) (nI p) 0 tb m = some (0, nI (sk tb n p), 1)) := by
  have s := sk_spec (tb := tb) hp
  have m48 : (48 + m).toInt = 48 + m.toInt := by
    rw [fb_addI] <;> rw [show (48 : Int32).toInt = 48 from rfl] <;> omega
  unfold F_X7_readDigit F_X9_digit
  rw [if_pos rfl, if_pos rfl, next_cls hn hp, here_mod hn hp]
  simp only [Option.bind_some, in_mod32, gB_if, nI_1, add0]
  rw [here_mod hn s.2.1, sk_stop s.2.2, i64_of, m48, show (48 : Int64).toInt = 48 from rfl, fail_0]
  simp only [Option.bind_some, nI_1]
  unfold nx
  rw [sk_stop s.2.2]
  by_cases h : sk tb n p < n
  · simp only [if_pos h]
    have r := hb _ h
    have e48 : (tb (sk tb n p) - 48).toInt = (tb (sk tb n p)).toInt - 48 := by
      rw [fb_subI] <;> rw [show (48 : Int32).toInt = 48 from rfl] <;> omega
    have c1 : (tb (sk tb n p) - 48 < 0) ↔ (tb (sk tb n p)).toInt < 48 := by
      rw [gI_lt, e48, i0]
      omega
    have c2 : (tb (sk tb n p) - 48 ≤ m) ↔ (tb (sk tb n p)).toInt ≤ 48 + m.toInt := by
      rw [gI_le, e48]
      omega
    cases e : inb (tb (sk tb n p)).toInt 48 (48 + m.toInt)
    · refine Or.inr ⟨rfl, ?_, rfl⟩
      rcases inb_f.mp e with e1 | e1
      · rw [if_pos (c1.mpr e1)]
      · rw [if_neg (by rw [c1]; omega), if_neg (by rw [c2]; omega)]
    · have e1 := inb_t.mp e
      obtain ⟨v, hv, ev, eV⟩ := nonneg_nI (i := tb (sk tb n p) - 48) (by omega)
      refine Or.inl ⟨v, by omega, h, ?_, ?_, ?_⟩
      · rw [gI_eq, nI_toInt (by omega)]
        omega
      · rw [if_neg (by rw [c1]; omega), if_pos (by rw [c2]; omega), ev]
      · rw [if_pos rfl, ev]
  · simp only [if_neg h]
    have e : inb (0 : Int32).toInt 48 (48 + m.toInt) = false := inb_f.mpr (Or.inl (by decide))
    refine Or.inr ⟨e, ?_, ?_⟩
    · rw [if_pos (by decide)]
    · rw [e]
      rfl
theorem QR.digit (hn : n ≤ 100) (hb : ∀ i, i < n → Rg (tb i) 32 126) {tp tl at_ wr : Int32} (h : QR n tb tp tl at_ wr) {m : Int32} (hm : Rg m (-1) 9) : ∃ (v tp' tl' at' wr' : Int32), F_X7_readDigit (nI n) tp tl tb m = some (v, tp', tl') ∧ F_X9_digit (nI n) at_ wr tb m = some (v, at', wr') ∧ QR n tb tp' tl' at' wr' ∧ Rg v 0 9 ∧ (wr' = 0 → v.toInt ≤ m.toInt) := by
  obtain ⟨p, k, hp, hk, rfl, rfl, ⟨rfl, rfl, rfl⟩ | ⟨rfl, rfl, hs⟩⟩ := h
  · have s := sk_spec (tb := tb) hp
    rcases digit_0 hn hb hp hm with ⟨v, h1, h2, -, h4, h5⟩ | ⟨-, h4, h5⟩
    · have ev : (nI v).toInt = v := nI_toInt (by omega)
      exact ⟨_, _, _, _, _, h4, h5, QR.ok h2, ⟨by omega, by omega⟩, fun _ => by omega⟩
    · exact ⟨_, _, _, _, _, h4, h5, QR.bad s.2.1 s.2.1 s.2.2, ⟨by decide, by decide⟩, fun e => absurd e (by decide)⟩
  · exact ⟨_, _, _, _, _, readDigit_1 (flt_ne (by omega)) m, digit_1 m, QR.bad hp hk hs, ⟨by decide, by decide⟩, fun e => absurd e (by decide)⟩
theorem neg_rg {v : Int32} (h : Rg v 0 9) : Rg (-v) (-9) 9 := by
  have e := fb_negI (x := v) (by omega)
  exact ⟨by omega, by omega⟩
theorem signed_a (hn : n ≤ 100) (hb : ∀ i, i < n → Rg (tb i) 32 126) {p : Nat} (e1 : F_X7_takes (nI n) (nI p) 0 tb 45 = some (1, nI (sk tb n p + 1))) (e2 : F_X9_has (nI n) (nI p) 0 tb 45 = some (1, nI (sk tb n p + 1))) (e3 : sk tb n p + 1 ≤ n) : ∃ (v tp' tl' at' wr' : Int32), F_X7_readSigned (nI n) (nI p) 0 tb = some (v, tp', tl') ∧ F_X9_signed (nI n) (nI p) 0 tb = some (v, at', wr') ∧ QR n tb tp' tl' at' wr' ∧ Rg v (-9) 9 := by
  have m9 : Rg (9 : Int32) (-1) 9 := ⟨by decide, by decide⟩
  have z1 : ¬ (1 : Int32) = 0 := by decide
  obtain ⟨v, tp', tl', at', wr', d1, d2, d3, d4, -⟩ := QR.digit hn hb (QR.ok (tb := tb) e3) m9
  refine ⟨-v, tp', tl', at', wr', ?_, ?_, d3, neg_rg d4⟩
  · unfold F_X7_readSigned
    rw [e1]
    simp only [Option.bind_some, if_neg z1]
    rw [d1]
    simp only [Option.bind_some]
  · unfold F_X9_signed
    rw [e2]
    simp only [Option.bind_some, if_neg z1, if_true]
    rw [d2]
    simp only [Option.bind_some]
end Read
