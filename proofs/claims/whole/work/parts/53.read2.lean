/-! Reading the tape, further. -/
section Read2
variable {n : Nat} {tb : Nat → Int32}
theorem rs_1 {tp tl t2 : Int32} (e1 : F_X7_takes (nI n) tp tl tb 45 = some (0, t2)) : F_X7_readSigned (nI n) tp tl tb = (F_X7_needs (nI n) t2 tl tb 43).bind fun r7 => (F_X7_readDigit (nI n) r7.1 r7.2 tb 9).bind fun r9 => some (r9.1, r9.2.1, r9.2.2) := by
  unfold F_X7_readSigned
  rw [e1]
  rfl
theorem ms_0 {at_ t2 : Int32} (e2 : F_X9_has (nI n) at_ 0 tb 45 = some (0, t2)) : F_X9_signed (nI n) at_ 0 tb = (F_X9_has (nI n) t2 0 tb 43).bind fun r11 => if r11.1 = 0 then ((F_X9_digit (nI n) r11.2 1 tb 9).bind fun r17 => some (r17.1, r17.2.1, r17.2.2)) else ((F_X9_digit (nI n) r11.2 0 tb 9).bind fun r14 => some (r14.1, r14.2.1, r14.2.2)) := by
  unfold F_X9_signed
  rw [e2]
  rfl
theorem ms_1 {at_ t2 : Int32} (e2 : F_X9_has (nI n) at_ 1 tb 45 = some (0, t2)) : F_X9_signed (nI n) at_ 1 tb = (F_X9_digit (nI n) t2 1 tb 9).bind fun r4 => some (r4.1, r4.2.1, r4.2.2) := by
  unfold F_X9_signed
  rw [e2]
  rfl
theorem nd_1 {tp t3 c : Int32} (e : F_X7_takes (nI n) tp 0 tb c = some (1, t3)) : F_X7_needs (nI n) tp 0 tb c = some (t3, 0) := by
  unfold F_X7_needs
  rw [e]
  rfl
theorem nd_0 {tp t3 c : Int32} (e : F_X7_takes (nI n) tp 0 tb c = some (0, t3)) : F_X7_needs (nI n) tp 0 tb c = some (t3, -20 - t3) := by
  unfold F_X7_needs
  rw [e, Option.bind_some, if_pos rfl, fail_0]
  rfl
theorem signed_b (hn : n ≤ 100) (hb : ∀ i, i < n → Rg (tb i) 32 126) {p : Nat} (hp : p ≤ n) (e1 : F_X7_takes (nI n) (nI p) 0 tb 45 = some (0, nI (sk tb n p))) (e2 : F_X9_has (nI n) (nI p) 0 tb 45 = some (0, nI (sk tb n p))) : ∃ (v tp' tl' at' wr' : Int32), F_X7_readSigned (nI n) (nI p) 0 tb = some (v, tp', tl') ∧ F_X9_signed (nI n) (nI p) 0 tb = some (v, at', wr') ∧ QR n tb tp' tl' at' wr' ∧ Rg v (-9) 9 := by
  have m9 : Rg (9 : Int32) (-1) 9 := ⟨by decide, by decide⟩
  have s := sk_spec (tb := tb) hp
  have s2 := sk_spec (tb := tb) s.2.1
  rw [rs_1 e1, ms_0 e2]
  rcases takes_0 (tb := tb) hn s.2.1 (c := 43) (by decide) (by decide) with ⟨g1, g2, g3⟩ | ⟨g1, g2⟩
  · obtain ⟨v, tp', tl', at', wr', d1, d2, d3, d4, -⟩ := QR.digit hn hb (QR.ok (tb := tb) g3) m9
    refine ⟨v, tp', tl', at', wr', ?_, ?_, d3, d4.wide (by omega) (by omega)⟩
    · rw [nd_1 g1, Option.bind_some, d1, Option.bind_some]
    · rw [g2, Option.bind_some, if_neg (show ¬ (1 : Int32) = 0 by decide), d2, Option.bind_some]
  · obtain ⟨v, tp', tl', at', wr', d1, d2, d3, d4, -⟩ := QR.digit hn hb (QR.bad (tb := tb) s2.2.1 s2.2.1 s2.2.2) m9
    refine ⟨v, tp', tl', at', wr', ?_, ?_, d3, d4.wide (by omega) (by omega)⟩
    · rw [nd_0 g1, Option.bind_some, d1, Option.bind_some]
    · rw [g2, Option.bind_some, if_pos rfl, d2, Option.bind_some]
theorem signed_c1 {p k : Nat} (hp : p ≤ n) (hn : n ≤ 100) : F_X7_readSigned (nI n) (nI k) (-20 - nI p) tb = some (0, nI k, -20 - nI p) := by
  have ne := flt_ne (p := p) (by omega)
  generalize -20 - nI p = tl at ne ⊢
  rw [rs_1 (takes_1 ne 45), needs_1 ne, Option.bind_some, readDigit_1 ne, Option.bind_some]
theorem signed_c2 {p : Nat} : F_X9_signed (nI n) (nI p) 1 tb = some (0, nI p, 1) := by
  rw [ms_1 (has_1 45), digit_1, Option.bind_some]
theorem QR.signed (hn : n ≤ 100) (hb : ∀ i, i < n → Rg (tb i) 32 126) {tp tl at_ wr : Int32} (h : QR n tb tp tl at_ wr) : ∃ (v tp' tl' at' wr' : Int32), F_X7_readSigned (nI n) tp tl tb = some (v, tp', tl') ∧ F_X9_signed (nI n) at_ wr tb = some (v, at', wr') ∧ QR n tb tp' tl' at' wr' ∧ Rg v (-9) 9 := by
  obtain ⟨p, k, hp, hk, rfl, rfl, ⟨rfl, rfl, rfl⟩ | ⟨rfl, rfl, hs⟩⟩ := h
  · rcases takes_0 (tb := tb) hn hp (c := 45) (by decide) (by decide) with ⟨e1, e2, e3⟩ | ⟨e1, e2⟩
    · exact signed_a hn hb e1 e2 e3
    · exact signed_b hn hb hp e1 e2
  · exact ⟨_, _, _, _, _, signed_c1 hp hn, signed_c2, QR.bad hp hk hs, ⟨by decide, by decide⟩⟩
/-- a number and where it ends, as the model counts it -/
def nmv (tb : Nat → Int32) : Nat → Nat → Nat → Nat × Nat
  | 0, p, v => (v, p)
  | d + 1, p, v => if inb (tb p).toInt 48 57 = true then nmv tb d (p + 1) (if 999 < v then v else 10 * v + (tb p).toInt.toNat - 48) else (v, p)
theorem nmv_le : ∀ (d p v : Nat), v ≤ 9999 → (nmv tb d p v).1 ≤ 9999 ∧ p ≤ (nmv tb d p v).2 ∧ (nmv tb d p v).2 ≤ p + d
  | 0, p, v, h => ⟨h, Nat.le_refl _, Nat.le_refl _⟩
  | d + 1, p, v, h => by
    unfold nmv
    cases e : inb (tb p).toInt 48 57
    · exact ⟨h, Nat.le_refl _, by show p ≤ _; omega⟩
    · have e1 := inb_t.mp e
      rw [if_pos rfl]
      have ih := nmv_le d (p + 1) (if 999 < v then v else 10 * v + (tb p).toInt.toNat - 48) (by split <;> omega)
      exact ⟨ih.1, by omega, by omega⟩
theorem number_mod_loop (hn : n ≤ 100) (kk : Int32 → Int32 → Option (Int32 × Int32 × Int32)) : ∀ (d p v fu : Nat), p + d = n → v ≤ 9999 → d < fu → FL_X9_number_38 (nI n) tb kk fu (nI v) (nI p) = kk (nI (nmv tb d p v).1) (nI (nmv tb d p v).2)
  | 0, p, v, fu + 1, hp, _, _ => by
    have e : p = n := by omega
    subst e
    unfold FL_X9_number_38
    rw [if_pos (nI_le (Nat.le_refl _) (by omega))]
    rfl
  | d + 1, p, v, fu + 1, hp, hv, hfu => by
    have ih := fun v hv => number_mod_loop hn kk d (p + 1) v fu (by omega) hv (by omega)
    have c1 : (nI p).toNatClampNeg = p := nI_clamp (by omega)
    unfold FL_X9_number_38
    simp only [if_neg (nI_ge (a := p) (b := n) (by omega) (by omega)), if_pos (show gvp (nI p) 100 from gvp_nI (by omega) (by omega)), c1, nI_1, in_mod32, Option.bind_some, gB_if]
    show (if inb (tb p).toInt 48 57 = true then _ else _) = kk (nI (if inb (tb p).toInt 48 57 = true then _ else _ : Nat × Nat).1) (nI (if inb (tb p).toInt 48 57 = true then _ else _ : Nat × Nat).2)
    cases e : inb (tb p).toInt 48 57
    · rfl
    · have e1 := inb_t.mp e
      simp only [if_true]
      obtain ⟨b, hb, eb, eB⟩ := nonneg_nI (i := tb p) (by omega)
      by_cases h : 999 < v
      · rw [if_neg (show ¬ nI v ≤ 999 from nI_ge (b := v) (a := 999) h (by omega)), if_pos h]
        exact ih v hv
      · rw [if_pos (show nI v ≤ 999 from nI_le (b := 999) (by omega) (by omega)), if_neg h]
        rw [show 10 * nI v + tb p - 48 = nI (10 * v + (tb p).toInt.toNat - 48) by
          rw [eB, Int.toNat_natCast, eb, show (10 : Int32) * nI v = nI (10 * v) from pk_mul 10 v, nI_add, show (10 * v + b) = (10 * v + b - 48) + 48 by omega, ← nI_add, show (48 : Int32) = nI 48 from rfl, Int32.add_sub_cancel]
          congr 1]
        exact ih _ (by omega)
theorem number_cls_loop (hn : n ≤ 100) (kk : Int32 → Int32 → Option (Int32 × Int32 × Int32)) : ∀ (d p v fu : Nat), p + d = n → v ≤ 9999 → d < fu → FL_X7_readNumber_14 (nI n) tb 0 kk fu (nI (min v 1000)) (nI p) = kk (nI (min (nmv tb d p v).1 1000)) (nI (nmv tb d p v).2)
  | 0, p, v, fu + 1, hp, _, _ => by
    have e : p = n := by omega
    subst e
    unfold FL_X7_readNumber_14
    rw [if_pos rfl, if_pos (nI_le (Nat.le_refl _) (by omega))]
    rfl
  | d + 1, p, v, fu + 1, hp, hv, hfu => by
    have ih := fun v hv => number_cls_loop hn kk d (p + 1) v fu (by omega) hv (by omega)
    have c1 : (nI p).toNatClampNeg = p := nI_clamp (by omega)
    have dg : F_X7_isDigit (tb p) = some (gB (inb (tb p).toInt 48 57)) := two_tests (gI_lt (tb p) 48) (gI_lt 57 (tb p))
    unfold FL_X7_readNumber_14
    simp only [if_true, if_neg (nI_ge (a := p) (b := n) (by omega) (by omega)), if_pos (show gvp (nI p) 100 from gvp_nI (by omega) (by omega)), c1, nI_1, dg, Option.bind_some, gB_if]
    show (if inb (tb p).toInt 48 57 = true then _ else _) = kk (nI (min (if inb (tb p).toInt 48 57 = true then _ else _ : Nat × Nat).1 1000)) (nI (if inb (tb p).toInt 48 57 = true then _ else _ : Nat × Nat).2)
    cases e : inb (tb p).toInt 48 57
    · rfl
    · have e1 := inb_t.mp e
      simp only [if_true]
      obtain ⟨b, hb, eb, eB⟩ := nonneg_nI (i := tb p) (by omega)
      have ev : 10 * nI (min v 1000) + tb p - 48 = nI (10 * min v 1000 + b - 48) := by
        rw [eb, show (10 : Int32) * nI (min v 1000) = nI (10 * min v 1000) from pk_mul 10 _, nI_add, show (10 * min v 1000 + b) = (10 * min v 1000 + b - 48) + 48 by omega, ← nI_add, show (48 : Int32) = nI 48 from rfl, Int32.add_sub_cancel]
        congr 1
      have eg : gmin (10 * nI (min v 1000) + tb p - 48) 1000 = nI (min (if 999 < v then v else 10 * v + (tb p).toInt.toNat - 48) 1000) := by
        rw [ev, eB, Int.toNat_natCast]
        unfold gmin
        have hmin : min v 1000 ≤ 1000 := Nat.min_le_right _ _
        by_cases h : 999 < v
        · have m1 : min v 1000 = 1000 := by omega
          rw [if_pos h, m1, if_pos (show (1000 : Int32) < nI (10 * 1000 + b - 48) from nI_lt (a := 1000) (by omega) (by omega))]
          rfl
        · have m1 : min v 1000 = v := by omega
          rw [if_neg h, m1]
          by_cases h2 : 1000 < 10 * v + b - 48
          · rw [if_pos (show (1000 : Int32) < nI (10 * v + b - 48) from nI_lt (a := 1000) h2 (by omega)), Nat.min_eq_right (by omega)]
            rfl
          · rw [if_neg (show ¬ (1000 : Int32) < nI (10 * v + b - 48) from nI_nlt (a := 1000) (by omega) (by omega)), Nat.min_eq_left (by omega)]
      rw [eg]
      exact ih _ (by split <;> omega)
theorem QR.number (hn : n ≤ 100) (hb : ∀ i, i < n → Rg (tb i) 32 126) {tp tl at_ wr : Int32} (h : QR n tb tp tl at_ wr) : ∃ (v v' tp' tl' at' wr' : Int32), F_X7_readNumber (nI n) tp tl tb 20 = some (v, tp', tl') ∧ F_X9_number (nI n) at_ wr tb = some (v', at', wr') ∧ QR n tb tp' tl' at' wr' ∧ (wr' = 0 → v = v' ∧ Rg v 0 20) := by
  have m9 : Rg (9 : Int32) (-1) 9 := ⟨by decide, by decide⟩
  have hg := gN0_big
  obtain ⟨g', hg'⟩ : ∃ g', gN0 = g' + 1 := ⟨gN0 - 1, by omega⟩
  obtain ⟨p, k, hp, hk, rfl, rfl, ⟨rfl, rfl, rfl⟩ | ⟨rfl, rfl, hs⟩⟩ := h
  · have s := sk_spec (tb := tb) hp
    unfold F_X7_readNumber F_X9_number
    rw [if_pos rfl, here_mod hn hp]
    simp only [Option.bind_some, in_mod32, gB_if]
    rcases digit_0 hn hb hp m9 with ⟨v, h1, h2, h3, h4, -⟩ | ⟨h3, h4, -⟩
    · rw [h4]
      simp only [Option.bind_some]
      have hv : v ≤ 9 := by
        have : (9 : Int32).toInt = 9 := rfl
        omega
      have t48 : (tb (sk tb n k)).toInt = 48 + v := by
        rw [h3, nI_toInt (by omega)]
        omega
      have hin : inb (nx tb n k 0).toInt 48 57 = true := by
        unfold nx
        rw [if_pos (show sk tb n k < n from h2), inb_t]
        omega
      have hin2 : inb (tb (sk tb n k)).toInt 48 57 = true := by
        rw [inb_t]
        omega
      have q : nmv tb (n - sk tb n k) (sk tb n k) 0 = nmv tb (n - (sk tb n k + 1)) (sk tb n k + 1) v := by
        rw [show n - sk tb n k = (n - (sk tb n k + 1)) + 1 by omega]
        conv => lhs; unfold nmv
        rw [if_pos hin2, if_neg (by omega), t48]
        congr 1
        omega
      have r := nmv_le (tb := tb) (n - (sk tb n k + 1)) (sk tb n k + 1) v (by omega)
      have l1 := number_cls_loop (tb := tb) hn (fun l2_14 w0_2_14 => if l2_14 ≤ 20 then (some (l2_14, w0_2_14, (0 : Int32))) else ((F_X7_failAt 0 (nI (sk tb n k + 1) - 1)).bind fun r4 => some (l2_14, w0_2_14, r4))) (n - (sk tb n k + 1)) (sk tb n k + 1) v gN0 (by omega) (by omega) (by omega)
      rw [Nat.min_eq_left (show v ≤ 1000 by omega)] at l1
      have l2 := number_mod_loop (tb := tb) hn (fun l2_38 w0_18_38 => if l2_38 ≤ 20 then (some (l2_38, w0_18_38, (0 : Int32))) else (some (l2_38, nI (sk tb n k), 1))) (n - sk tb n k) (sk tb n k) 0 gN0 (by omega) (by omega) (by omega)
      rw [q] at l2
      show ∃ (v v' tp' tl' at' wr' : Int32), _ = _ ∧ (if inb (nx tb n k 0).toInt 48 57 = true then _ else _) = _ ∧ _
      rw [hin, if_pos rfl]
      by_cases hz : (nmv tb (n - (sk tb n k + 1)) (sk tb n k + 1) v).1 ≤ 20
      · rw [Nat.min_eq_left (by omega)] at l1
        have le20 : nI (nmv tb (n - (sk tb n k + 1)) (sk tb n k + 1) v).1 ≤ 20 := nI_le (b := 20) hz (by omega)
        simp only [if_pos le20] at l1 l2
        refine ⟨_, _, _, _, _, _, l1, l2, QR.ok (by omega), fun _ => ⟨rfl, nI_rg (by omega) (by omega)⟩⟩
      · have n20 : ¬ nI (nmv tb (n - (sk tb n k + 1)) (sk tb n k + 1) v).1 ≤ 20 := nI_ge (a := 20) (by omega) (by omega)
        have n20' : ¬ nI (min (nmv tb (n - (sk tb n k + 1)) (sk tb n k + 1) v).1 1000) ≤ 20 := nI_ge (a := 20) (by omega) (by omega)
        simp only [if_neg n20'] at l1
        simp only [if_neg n20] at l2
        have q1 : ∀ x y : Int32, ((F_X7_failAt 0 (nI (sk tb n k + 1) - 1)).bind fun r4 => some (x, y, r4)) = some (x, y, -20 - nI (sk tb n k)) := by
          intro x y
          rw [fail_0, nI_pred]
          rfl
        refine ⟨_, _, _, _, _, _, l1.trans (q1 _ _), l2, QR.bad s.2.1 (by omega) s.2.2, fun e => absurd e (by decide)⟩
    · rw [h4]
      simp only [Option.bind_some]
      show ∃ (v v' tp' tl' at' wr' : Int32), _ = _ ∧ (if inb (nx tb n k 0).toInt 48 57 = true then _ else _) = _ ∧ _
      rw [show inb (nx tb n k 0).toInt 48 57 = false from h3]
      rw [hg']
      unfold FL_X7_readNumber_14
      rw [if_neg (flt_ne (by omega)), if_pos (by decide)]
      exact ⟨_, _, _, _, _, _, rfl, rfl, QR.bad s.2.1 s.2.1 s.2.2, fun e => absurd e (by decide)⟩
  · have ne := flt_ne (p := p) (by omega)
    unfold F_X7_readNumber F_X9_number
    rw [readDigit_1 ne, if_neg (by decide)]
    simp only [Option.bind_some]
    rw [hg']
    unfold FL_X7_readNumber_14
    rw [if_neg ne, if_pos (by decide)]
    exact ⟨_, _, _, _, _, _, rfl, rfl, QR.bad hp hk hs, fun e => absurd e (by decide)⟩
/-- the end of the reading -/
theorem QR.finish (hn : n ≤ 100) (hb : ∀ i, i < n → Rg (tb i) 32 126) {tp tl at_ wr : Int32} (h : QR n tb tp tl at_ wr) : (wr = 0 ∧ ∃ tp' : Int32, F_X7_finish (nI n) tp tl tb = some (0, 0, tp', 0) ∧ F_X9_here (nI n) at_ tb = some (0, tp')) ∨ (∃ (q tp' : Int32) (p : Nat), p ≤ 100 ∧ F_X7_finish (nI n) tp tl tb = some (-20 - nI p, 0, tp', -20 - nI p) ∧ ((wr = 0 ∧ ¬ q = 0 ∧ F_X9_here (nI n) at_ tb = some (q, nI p)) ∨ (wr = 1 ∧ at_ = nI p))) := by
  obtain ⟨p, k, hp, hk, rfl, rfl, ⟨rfl, rfl, rfl⟩ | ⟨rfl, rfl, hs⟩⟩ := h
  · have s := sk_spec (tb := tb) hp
    unfold F_X7_finish
    rw [next_cls hn hp, here_mod hn hp]
    simp only [Option.bind_some]
    unfold nx
    by_cases h : sk tb n k < n
    · have r := hb _ h
      simp only [if_pos h]
      rw [if_neg (show ¬ tb (sk tb n k) = -1 by
        rw [gI_eq, show (-1 : Int32).toInt = -1 from rfl]
        omega), fail_0]
      refine Or.inr ⟨_, _, sk tb n k, by omega, rfl, Or.inl ⟨(by first | rfl | trivial), ?_, rfl⟩⟩
      rw [gI_eq, i0]
      omega
    · simp only [if_neg h]
      exact Or.inl ⟨(by first | rfl | trivial), _, rfl, rfl⟩
  · unfold F_X7_finish
    rw [next_cls hn hk]
    simp only [Option.bind_some]
    rw [fail_1 (flt_ne (by omega))]
    refine Or.inr ⟨0, nI (sk tb n k), p, by omega, ?_, Or.inr ⟨(by first | rfl | trivial), rfl⟩⟩
    simp only [Option.bind_some, ite_self]
end Read2
