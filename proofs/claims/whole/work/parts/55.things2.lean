/-! things: both sides together. -/
noncomputable def kT8 (T n : Nat) (f tb : Nat → Int32) (_ w2 w3 w28 : Int32) (a29 : Nat → Int32) : Option (Int32 × Int32 × (Nat → Int32) × Int32 × Int32 × Int32 × Int32 × (Nat → Int32)) := (F_X7_finish (nI n) w2 w3 tb).bind fun r5 => if 0 ≤ r5.1 then ((F_X4_takeRows (nI T) 50 f w28 50 a29).bind fun r8 => (F_X4_size r8.1).bind fun r10 => some (r10, r8.1, r8.2, r5.2.1, r5.2.2.1, r5.2.2.2, w28, a29)) else (some (r5.1, nI T, f, r5.2.1, r5.2.2.1, r5.2.2.2, w28, a29))
noncomputable def kT9 (T n : Nat) (g tape : Nat → Int32) (l1 _ w18 w19 : Int32) (a12 : Nat → Int32) : Option (Int32 × Int32 × Int32 × Int32 × Int32 × (Nat → Int32) × (Nat → Int32)) := if w19 = 0 then ((F_X9_here (nI n) w18 tape).bind fun r2 => if r2.1 = 0 then (FL_X9_things_143 l1 a12 (fun l3_143 a2_143 => some (l1, 0, r2.2, 0, l1, a2_143, a12)) gN0 0 g) else (some (((-20) - r2.2), 0, r2.2, 1, nI T, g, a12))) else (some (((-20) - w18), 0, w18, 1, nI T, g, a12))
theorem things_8 {T n : Nat} {f tb yf : Nat → Int32} : F_X8_things (nI T) f (nI n) tb yf = FL_X8_things_16 (nI n) tb (kT8 T n f tb) gN0 1 0 0 0 yf := by
  unfold F_X8_things F_X4_empty F_X7_begin
  rw [Option.bind_some, Option.bind_some]
  rfl
theorem things_9 {T n : Nat} {g tape rd : Nat → Int32} : F_X9_things (nI T) (nI n) g tape rd = FL_X9_things_14 (nI n) tape (kT9 T n g tape) gN0 0 1 0 0 rd := by
  unfold F_X9_things
  rfl
section ThingsE
variable {T n : Nat} {f g tb yf rd : Nat → Int32}
theorem kT8_ok {i tp tl w28 tp' : Int32} (f1 : F_X7_finish (nI n) tp tl tb = some (0, 0, tp', 0)) : kT8 T n f tb i tp tl w28 yf = some (w28, w28, va_cpy yf f 0 0 50, 0, tp', 0, w28, yf) := by
  unfold kT8
  rw [f1, Option.bind_some, if_pos (show (0 : Int32) ≤ 0 by decide), takeRows_cls (by omega), Option.bind_some]
  rfl
theorem kT8_bad {i tp tl w28 tp' : Int32} {p : Nat} (hp : p ≤ 100) (f1 : F_X7_finish (nI n) tp tl tb = some (-20 - nI p, 0, tp', -20 - nI p)) : kT8 T n f tb i tp tl w28 yf = some (-20 - nI p, nI T, f, 0, tp', -20 - nI p, w28, yf) := by
  have ne := flt_lt hp
  generalize -20 - nI p = q at f1 ne ⊢
  unfold kT8
  rw [f1, Option.bind_some, if_neg ne]
theorem kT9_ok {k i at_ tp' : Int32} (f2 : F_X9_here (nI n) at_ tb = some (0, tp')) : kT9 T n g tb k i at_ 0 rd = FL_X9_things_143 k rd (fun l3_143 a2_143 => some (k, 0, tp', 0, k, a2_143, rd)) gN0 0 g := by
  unfold kT9
  rw [if_pos rfl, f2, Option.bind_some, if_pos rfl]
theorem kT9_bad0 {k i at_ q z : Int32} (hq : ¬ q = 0) (f2 : F_X9_here (nI n) at_ tb = some (q, z)) : kT9 T n g tb k i at_ 0 rd = some (-20 - z, 0, z, 1, nI T, g, rd) := by
  unfold kT9
  rw [if_pos rfl, f2, Option.bind_some, if_neg hq]
theorem kT9_bad1 {k i at_ : Int32} : kT9 T n g tb k i at_ 1 rd = some (-20 - at_, 0, at_, 1, nI T, g, rd) := by
  unfold kT9
  rw [if_neg (by decide)]
end ThingsE
theorem eq_things {T P n : Nat} {fo tu : Int32} {f pf g xs ys laws tb tape : Nat → Int32} (h : SR T P fo tu f pf g xs ys laws) (hB : BR n tb tape) (yf rd : Nat → Int32) : ∃ (r : Int32) (T' : Nat) (f' : Nat → Int32) (tp' tl' yz' : Int32) (yf' : Nat → Int32) (at' wr' : Int32) (g' rd' : Nat → Int32), F_X8_things (nI T) f (nI n) tb yf = some (r, nI T', f', 0, tp', tl', yz', yf') ∧ F_X9_things (nI T) (nI n) g tape rd = some (r, 0, at', wr', nI T', g', rd') ∧ SR T' P fo tu f' pf g' xs ys laws := by
  obtain ⟨hn, rfl, hb⟩ := hB
  have hg := gN0_big
  rw [things_8, things_9]
  obtain ⟨k, i', tp, tl, at_, wr, yf', rd', hk, c1, m1, hQ, hY⟩ := things_loop hn hb (kT8 T n f tape) (kT9 T n g tape) 4 0 gN0 gN0 (nI 0) 0 (nI 0) 0 yf rd (by omega) (by omega) (by omega) (QR.ok (p := 0) (by omega)) (fun _ t ht => by omega)
  have c2 : FL_X8_things_16 (nI n) tape (kT8 T n f tape) gN0 1 0 0 0 yf = _ := c1
  have m2 : FL_X9_things_14 (nI n) tape (kT9 T n g tape) gN0 0 1 0 0 rd = _ := m1
  rw [c2, m2]
  rcases QR.finish hn hb hQ with ⟨rfl, tp', f1, f2⟩ | ⟨q, tp', p, hp, f1, f2⟩
  · have hY := hY rfl
    obtain ⟨g', l1, l2⟩ := comes_loop hk hY (fun l3_143 a2_143 => some (nI k, 0, tp', 0, nI k, a2_143, rd')) k 0 gN0 g (by omega) (by omega) (fun i hi => by omega)
    refine ⟨nI k, k, va_cpy yf' f 0 0 50, tp', 0, nI k, yf', tp', 0, g', rd', kT8_ok f1, (kT9_ok f2).trans l1, ?_⟩
    obtain ⟨q1, q2, q3, q4, q5⟩ := h
    refine ⟨by omega, q2, fun t ht => ?_, fun i hi => ?_, q5⟩
    · rw [cp_at _ _ (by omega), cp_at _ _ (by omega), cp_at _ _ (by omega), cp_at _ _ (by omega), cp_at _ _ (by omega)]
      obtain ⟨y0, y1, y2, y3, y4, y5, y6⟩ := hY t ht
      rw [y0, y1, y2, y3, y4]
      exact ⟨y5.1, y5.2, y6, ⟨by decide, by decide⟩, ⟨by decide, by decide⟩⟩
    · rw [l2 i hi, cp_at _ _ (by omega)]
  · rcases f2 with ⟨rfl, f2, f3⟩ | ⟨rfl, rfl⟩
    · exact ⟨_, T, f, tp', _, nI k, yf', nI p, 1, g, rd', kT8_bad hp f1, kT9_bad0 f2 f3, h⟩
    · exact ⟨_, T, f, tp', _, nI k, yf', nI p, 1, g, rd', kT8_bad hp f1, kT9_bad1, h⟩
