/-! talk: both sides together. -/
noncomputable def kS8 (az : Int32) (n : Nat) (af tb : Nat → Int32) (_ w2 w3 w30 : Int32) (a31 : Nat → Int32) : Option (Int32 × Int32 × (Nat → Int32) × Int32 × Int32 × Int32 × Int32 × (Nat → Int32)) := (F_X7_finish (nI n) w2 w3 tb).bind fun r5 => if 0 ≤ r5.1 then ((F_X4_takeRows az 72 af w30 72 a31).bind fun r8 => (F_X5_sentences r8.1 r8.2).bind fun r10 => some (r10, r8.1, r8.2, r5.2.1, r5.2.2.1, r5.2.2.2, w30, a31)) else (some (r5.1, az, af, r5.2.1, r5.2.2.1, r5.2.2.2, w30, a31))
noncomputable def kS9 (N n : Nat) (arms talk tape : Nat → Int32) (l1 _ w18 w19 : Int32) (a12 a13 : Nat → Int32) : Option (Int32 × Int32 × Int32 × Int32 × Int32 × (Nat → Int32) × (Nat → Int32) × (Nat → Int32) × (Nat → Int32)) := if w19 = 0 then ((F_X9_here (nI n) w18 tape).bind fun r2 => if r2.1 = 0 then (FL_X9_talk_163 l1 a13 (fun l3_163 a6_163 => FL_X9_talk_188 a12 (fun l3_188 a7_188 => some (l1, 0, r2.2, 0, l1, a6_163, a7_188, a12, a13)) gN0 0 talk) gN0 0 arms) else (some (((-20) - r2.2), 0, r2.2, 1, nI N, arms, talk, a12, a13))) else (some (((-20) - w18), 0, w18, 1, nI N, arms, talk, a12, a13))
theorem talk_8 {P n : Nat} {az : Int32} {af tb xf : Nat → Int32} : F_X8_talk (nI P) az af (nI n) tb xf = FL_X8_talk_16 (nI P) (nI n) tb (kS8 az n af tb) gN0 1 0 0 0 xf := by
  unfold F_X8_talk F_X4_empty F_X7_begin
  rw [Option.bind_some, Option.bind_some]
  rfl
theorem talk_9 {P N n : Nat} {arms talk tape rd ra : Nat → Int32} : F_X9_talk (nI P) (nI N) (nI n) arms talk tape rd ra = FL_X9_talk_14 (nI P) (nI n) tape (kS9 N n arms talk tape) gN0 0 1 0 0 rd ra := by
  unfold F_X9_talk
  rfl
section TalkE
variable {N n : Nat} {az : Int32} {af arms talk tb xf rd ra : Nat → Int32}
theorem kS8_ok {i tp tl w30 tp' s : Int32} (f1 : F_X7_finish (nI n) tp tl tb = some (0, 0, tp', 0)) (f2 : F_X5_sentences w30 (va_cpy xf af 0 0 72) = some s) : kS8 az n af tb i tp tl w30 xf = some (s, w30, va_cpy xf af 0 0 72, 0, tp', 0, w30, xf) := by
  unfold kS8
  rw [f1, Option.bind_some, if_pos (show (0 : Int32) ≤ 0 by decide), takeRows_cls (by omega), Option.bind_some, f2, Option.bind_some]
theorem kS8_bad {i tp tl w30 tp' : Int32} {p : Nat} (hp : p ≤ 100) (f1 : F_X7_finish (nI n) tp tl tb = some (-20 - nI p, 0, tp', -20 - nI p)) : kS8 az n af tb i tp tl w30 xf = some (-20 - nI p, az, af, 0, tp', -20 - nI p, w30, xf) := by
  have ne := flt_lt hp
  generalize -20 - nI p = q at f1 ne ⊢
  unfold kS8
  rw [f1, Option.bind_some, if_neg ne]
theorem kS9_ok {k i at_ tp' : Int32} (f2 : F_X9_here (nI n) at_ tb = some (0, tp')) : kS9 N n arms talk tb k i at_ 0 rd ra = FL_X9_talk_163 k ra (fun l3_163 a6_163 => FL_X9_talk_188 rd (fun l3_188 a7_188 => some (k, 0, tp', 0, k, a6_163, a7_188, rd, ra)) gN0 0 talk) gN0 0 arms := by
  unfold kS9
  rw [if_pos rfl, f2, Option.bind_some, if_pos rfl]
theorem kS9_bad0 {k i at_ q z : Int32} (hq : ¬ q = 0) (f2 : F_X9_here (nI n) at_ tb = some (q, z)) : kS9 N n arms talk tb k i at_ 0 rd ra = some (-20 - z, 0, z, 1, nI N, arms, talk, rd, ra) := by
  unfold kS9
  rw [if_pos rfl, f2, Option.bind_some, if_neg hq]
theorem kS9_bad1 {k i at_ : Int32} : kS9 N n arms talk tb k i at_ 1 rd ra = some (-20 - at_, 0, at_, 1, nI N, arms, talk, rd, ra) := by
  unfold kS9
  rw [if_neg (by decide)]
end TalkE
theorem eq_talk {P N n : Nat} {a : Nat → Nat} {az : Int32} {af arms talk tb tape : Nat → Int32} (hP : P ≤ 6) (h : TR P N a az af arms talk) (hB : BR n tb tape) (xf rd ra : Nat → Int32) : ∃ (r : Int32) (N' : Nat) (a' : Nat → Nat) (az' : Int32) (af' : Nat → Int32) (tp' tl' xz' : Int32) (xf' : Nat → Int32) (at' wr' : Int32) (arms' talk' rd' ra' : Nat → Int32), F_X8_talk (nI P) az af (nI n) tb xf = some (r, az', af', 0, tp', tl', xz', xf') ∧ F_X9_talk (nI P) (nI N) (nI n) arms talk tape rd ra = some (r, 0, at', wr', nI N', arms', talk', rd', ra') ∧ TR P N' a' az' af' arms' talk' := by
  obtain ⟨hn, rfl, hb⟩ := hB
  have hg := gN0_big
  rw [talk_8, talk_9]
  obtain ⟨M, a', i', tp, tl, at_, wr, xf', rd', ra', hM, c1, m1, hQ, hC, hR⟩ := talk_loop hn hb hP (kS8 az n af tape) (kS9 N n arms talk tape) 5 0 gN0 gN0 (fun _ => 0) (nI 0) 0 (nI 0) 0 xf rd ra (by omega) (by omega) (by omega) (QR.ok (p := 0) (by omega)) (fun s hs => by omega) (fun _ s hs => by omega)
  have c2 : FL_X8_talk_16 (nI P) (nI n) tape (kS8 az n af tape) gN0 1 0 0 0 xf = _ := c1
  have m2 : FL_X9_talk_14 (nI P) (nI n) tape (kS9 N n arms talk tape) gN0 0 1 0 0 rd ra = _ := m1
  rw [c2, m2]
  rcases QR.finish hn hb hQ with ⟨rfl, tp', f1, f2⟩ | ⟨q, tp', p, hp, f1, f2⟩
  · have hR := hR rfl
    obtain ⟨ar', l1, l2⟩ := arms_loop (ra := ra') hM (fun l3_163 a6_163 => FL_X9_talk_188 rd' (fun l3_188 a7_188 => some (nI M, 0, tp', 0, nI M, a6_163, a7_188, rd', ra')) gN0 0 talk) M 0 gN0 arms (by omega) (by omega) (fun i hi => by omega)
    obtain ⟨tk', l3, l4⟩ := rows_loop (rd := rd') (fun l3_188 a7_188 => some (nI M, (0 : Int32), tp', (0 : Int32), nI M, ar', a7_188, rd', ra')) 54 0 gN0 talk (by omega) (by omega) (fun i hi => by omega)
    have ho := off_le3 (fun s hs => (hC s hs).2.1)
    have hT : TR P M a' (nI (off a' M)) (va_cpy xf' af 0 0 72) ar' tk' := by
      refine ⟨hM, by omega, rfl, fun s hs => ?_⟩
      obtain ⟨q1, q2, q3⟩ := hC s hs
      refine ⟨q1, q2, by rw [l2 s hs, q3], fun j hj => ?_⟩
      have hm := off_mono a' (show s + 1 ≤ M by omega)
      rw [off] at hm
      rw [cp_at _ _ (by omega), cp_at _ _ (by omega), cp_at _ _ (by omega), cp_at _ _ (by omega), l4 _ (by omega), l4 _ (by omega), l4 _ (by omega)]
      exact hR s hs j hj
    exact ⟨nI M, M, a', nI (off a' M), va_cpy xf' af 0 0 72, tp', 0, nI (off a' M), xf', tp', 0, ar', tk', rd', ra', kS8_ok f1 hT.sentences, (kS9_ok f2).trans (l1.trans l3), hT⟩
  · rcases f2 with ⟨rfl, f2, f3⟩ | ⟨rfl, rfl⟩
    · exact ⟨_, N, a, az, af, tp', _, _, xf', nI p, 1, arms, talk, rd', ra', kS8_bad hp f1, kS9_bad0 f2 f3, h⟩
    · exact ⟨_, N, a, az, af, tp', _, _, xf', nI p, 1, arms, talk, rd', ra', kS8_bad hp f1, kS9_bad1, h⟩
