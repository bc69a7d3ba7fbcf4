/-! person, walk, rule, meant, stall, clear. -/
theorem ptR_at {f : Nat → Int32} {s i : Nat} {x y : Int32} : ptR f s x y i = if i = 2 * s + 1 then y else if i = 2 * s then x else f i := by
  unfold ptR zr upd
  rw [Nat.mul_comm]
  by_cases h1 : i = 2 * s + 1
  · rw [if_pos h1, if_pos h1]
  · rw [if_neg h1, if_neg h1]
    by_cases h2 : i = 2 * s
    · rw [if_pos h2, if_pos h2]
    · rw [if_neg h2, if_neg h2]
      exact if_neg (by omega)
/-- points that agree: rows of two in the class, two rows in the model -/
def PR (n : Nat) (rf xs ys : Nat → Int32) : Prop := ∀ k, k < n → xs k = rf (2 * k) ∧ ys k = rf (2 * k + 1) ∧ pt (xs k) (ys k)
theorem PR.add {n : Nat} {rf xs ys : Nat → Int32} (h : PR n rf xs ys) {x y : Int32} (hp : pt x y) : PR (n + 1) (ptR rf n x y) (upd xs n x) (upd ys n y) := by
  intro k hk
  rw [ptR_at, ptR_at]
  by_cases e : k = n
  · subst e
    rw [upd_self, upd_self, if_neg (by omega), if_pos rfl, if_pos rfl]
    exact ⟨rfl, rfl, hp⟩
  · rw [upd_ne _ _ e, upd_ne _ _ e, if_neg (by omega), if_neg (by omega), if_neg (by omega), if_neg (by omega)]
    exact h k (by omega)
theorem PR.set {n j : Nat} {rf xs ys : Nat → Int32} (h : PR n rf xs ys) (hj : j < n) {x y : Int32} (hp : pt x y) : PR n (upd (upd rf (2 * j) x) (2 * j + 1) y) (upd xs j x) (upd ys j y) := by
  intro k hk
  by_cases e : k = j
  · subst e
    rw [upd_self, upd_self, upd_ne _ _ (show 2 * k ≠ 2 * k + 1 by omega), upd_self, upd_self]
    exact ⟨rfl, rfl, hp⟩
  · rw [upd_ne _ _ e, upd_ne _ _ e, upd_ne _ _ (show 2 * k ≠ 2 * j + 1 by omega), upd_ne _ _ (show 2 * k ≠ 2 * j by omega), upd_ne _ _ (show 2 * k + 1 ≠ 2 * j + 1 by omega), upd_ne _ _ (show 2 * k + 1 ≠ 2 * j by omega)]
    exact h k hk
section Mut2
variable {T P : Nat} {fo tu : Int32} {f pf g xs ys laws : Nat → Int32}
theorem eq_person (h : SR T P fo tu f pf g xs ys laws) (x y : Int32) : ∃ (r : Int32) (P' : Nat) (pf' xs' ys' : Nat → Int32), F_X8_person (nI P) pf x y = some (r, nI P', pf') ∧ F_X9_person (nI P) xs ys x y = some (r, nI P', xs', ys') ∧ P ≤ P' ∧ SR T P' fo tu f pf' g xs' ys' laws := by
  have hP := h.2.1
  unfold F_X8_person F_X9_person
  rw [isPoint_mod]
  simp only [Option.bind_some, gB_if]
  cases h1 : ptB x y
  · refine ⟨-1, P, pf, xs, ys, ?_, rfl, Nat.le_refl _, h⟩
    rw [show F_X8_addPoint 2 6 (nI P) 12 pf x y = _ from addPoint_bad (mo := 6) h1]
    rfl
  · rcases Nat.lt_or_ge P 6 with h3 | h3
    · have cP : (nI P).toNatClampNeg = P := nI_clamp (by omega)
      refine ⟨nI P, P + 1, ptR pf P x y, upd xs P x, upd ys P y, ?_, ?_, by omega, ?_⟩
      · rw [show F_X8_addPoint 2 6 (nI P) 12 pf x y = _ from addPoint_cls (mo := 6) h1 h3 (by omega) rfl]
        rfl
      · simp only [if_true, if_neg (show ¬ nI P = 6 from fun e => by
            have := (nI_eq (b := 6) (by omega) (by omega)).mp e
            omega), if_pos (show gvp (nI P) 6 from gvp_nI h3 (by omega)), cP, nI_1, nI_pred]
      · obtain ⟨q1, q2, q3, q4, q5, q6⟩ := h
        exact ⟨q1, by omega, q3, q4, PR.add q5 (ptB_t.mp h1), q6⟩
    · have e : P = 6 := by omega
      subst e
      refine ⟨-3, 6, pf, xs, ys, ?_, ?_, Nat.le_refl _, h⟩
      · rw [show F_X8_addPoint 2 6 (nI 6) 12 pf x y = _ from addPoint_full (mo := 6) h1 (by omega)]
        rfl
      · rw [if_pos rfl, if_pos (by decide)]
theorem eq_walk (h : SR T P fo tu f pf g xs ys laws) (p x y : Int32) : ∃ (r : Int32) (pf' xs' ys' : Nat → Int32), F_X8_walk (nI P) pf p x y = some (r, pf') ∧ F_X9_walk (nI P) xs ys p x y = some (r, xs', ys') ∧ SR T P fo tu f pf' g xs' ys' laws := by
  have hP := h.2.1
  unfold F_X8_walk F_X9_walk
  rw [has_cls (by omega), isOne_mod (by omega), isPoint_cls, isPoint_mod]
  simp only [Option.bind_some, gB_if]
  cases h1 : inb p.toInt 0 (P - 1)
  · exact ⟨-1, pf, xs, ys, rfl, rfl, h⟩
  · cases h2 : ptB x y
    · exact ⟨-1, pf, xs, ys, rfl, rfl, h⟩
    · obtain ⟨k, hk, rfl⟩ := inb_nI h1
      have ck : (nI k).toNatClampNeg = k := nI_clamp (by omega)
      obtain ⟨e1, e2, -⟩ := h.2.2.2.2.1 k hk
      simp only [if_true, if_pos (gvp6 hk hP), ck]
      rw [show ∀ (f : Nat → Int32) v, F_X4_put 2 (nI P) 12 f (nI k) 0 v = _ from fun f v => put_cls (w := 2) (S := P) (n := 12) (r := k) (c := 0) (f := f) (v := v) hk (by omega) (by omega) (by omega) (by omega) (by omega)]
      simp only [Option.bind_some]
      rw [show ∀ (f : Nat → Int32) v, F_X4_put 2 (nI P) 12 f (nI k) 1 v = _ from fun f v => put_cls (w := 2) (S := P) (n := 12) (r := k) (c := 1) (f := f) (v := v) hk (by omega) (by omega) (by omega) (by omega) (by omega)]
      simp only [Option.bind_some]
      rw [show k * 2 + 0 = 2 * k by omega, show k * 2 + 1 = 2 * k + 1 by omega, upd_ne _ _ (show 2 * k + 1 ≠ 2 * k by omega), e1, e2]
      refine ⟨_, _, _, _, rfl, rfl, ?_⟩
      obtain ⟨q1, q2, q3, q4, q5, q6⟩ := h
      exact ⟨q1, q2, q3, q4, PR.set q5 hk (ptB_t.mp h2), q6⟩
theorem eq_rule (h : SR T P fo tu f pf g xs ys laws) (wh v : Int32) : ∃ (r fo' tu' : Int32) (laws' : Nat → Int32), F_X8_rule fo tu wh v = some (r, fo', tu') ∧ F_X9_rule laws wh v = some (r, laws') ∧ SR T P fo' tu' f pf g xs ys laws' := by
  unfold F_X8_rule F_X9_rule F_X2_changeLaw
  rw [in_mod32, in_mod32]
  simp only [Option.bind_some, gB_if]
  have c1 : (wh < 0) ↔ wh.toInt < 0 := gI_lt wh 0
  have c2 : (1 < wh) ↔ 1 < wh.toInt := gI_lt 1 wh
  have c3 : (v < 0) ↔ v.toInt < 0 := gI_lt v 0
  have c4 : (v ≤ 1) ↔ v.toInt ≤ 1 := gI_le v 1
  show ∃ (r fo' tu' : Int32) (laws' : Nat → Int32), _ = _ ∧ (if inb wh.toInt 0 1 = true then (if inb v.toInt 0 1 = true then _ else _) else _) = _ ∧ _
  cases h1 : inb wh.toInt 0 1
  · refine ⟨-1, fo, tu, laws, ?_, rfl, h⟩
    rcases inb_f.mp h1 with h2 | h2
    · rw [if_pos (c1.mpr h2)]
    · rw [if_neg (by rw [c1]; omega), if_pos (c2.mpr h2)]
  · have h2 := inb_t.mp h1
    rw [if_neg (by rw [c1]; omega), if_neg (by rw [c2]; omega)]
    cases h3 : inb v.toInt 0 1
    · refine ⟨-1, fo, tu, laws, ?_, rfl, h⟩
      rcases inb_f.mp h3 with h4 | h4
      · rw [if_pos (c3.mpr h4)]
      · rw [if_neg (by rw [c3]; omega), if_neg (by rw [c4]; omega)]
    · have h4 := inb_t.mp h3
      rw [if_neg (by rw [c3]; omega), if_pos (by rw [c4]; omega)]
      obtain ⟨q, hq, rfl⟩ : ∃ q, q < 2 ∧ wh = nI q := inb_nI (n := 2) h1
      have hv : v = 0 ∨ v = 1 := by
        rcases (show v.toInt = 0 ∨ v.toInt = 1 by omega) with e | e
        · exact Or.inl ((gI_eq v 0).mpr e)
        · exact Or.inr ((gI_eq v 1).mpr e)
      have cq : (nI q).toNatClampNeg = q := nI_clamp (by omega)
      simp only [if_true, if_pos (show gvp (nI q) 2 from gvp_nI hq (by omega)), cq]
      obtain ⟨q1, q2, q3, q4, q5, l0, l1, m0, m1⟩ := h
      rcases (show q = 0 ∨ q = 1 by omega) with rfl | rfl
      · refine ⟨fo, v, tu, upd laws 0 v, ?_, by rw [l0], q1, q2, q3, q4, q5, upd_self _ _ _, by rw [upd_ne _ _ (by decide)]; exact l1, hv, m1⟩
        rw [if_pos (show nI 0 = (0 : Int32) from rfl), if_pos (show nI 0 = (0 : Int32) from rfl)]
        rfl
      · refine ⟨tu, fo, v, upd laws 1 v, ?_, by rw [l1], q1, q2, q3, q4, q5, by rw [upd_ne _ _ (by decide)]; exact l0, upd_self _ _ _, m0, hv⟩
        rw [if_neg (by decide), if_neg (by decide)]
        rfl
theorem eq_stall {L : Nat} {lf stX stY : Nat → Int32} (h : LR L lf stX stY) (x y : Int32) : ∃ (r : Int32) (L' : Nat) (lf' stX' stY' : Nat → Int32), F_X8_stall (nI L) lf x y = some (r, nI L', lf') ∧ F_X9_stall (nI L) stX stY x y = some (r, nI L', stX', stY') ∧ LR L' lf' stX' stY' := by
  have hL := h.1
  unfold F_X8_stall F_X9_stall
  rw [isPoint_mod]
  simp only [Option.bind_some, gB_if]
  cases h1 : ptB x y
  · refine ⟨-1, L, lf, stX, stY, ?_, rfl, h⟩
    rw [show F_X8_addPoint 2 8 (nI L) 16 lf x y = _ from addPoint_bad (mo := 8) h1]
    rfl
  · rcases Nat.lt_or_ge L 8 with h3 | h3
    · have cL : (nI L).toNatClampNeg = L := nI_clamp (by omega)
      refine ⟨nI L, L + 1, ptR lf L x y, upd stX L x, upd stY L y, ?_, ?_, by omega, PR.add h.2 (ptB_t.mp h1)⟩
      · rw [show F_X8_addPoint 2 8 (nI L) 16 lf x y = _ from addPoint_cls (mo := 8) h1 h3 (by omega) rfl]
        rfl
      · simp only [if_true, if_neg (show ¬ nI L = 8 from fun e => by
            have := (nI_eq (b := 8) (by omega) (by omega)).mp e
            omega), if_pos (show gvp (nI L) 8 from gvp_nI h3 (by omega)), cL, nI_1, nI_pred]
    · have e : L = 8 := by omega
      subst e
      refine ⟨-3, 8, lf, stX, stY, ?_, ?_, h⟩
      · rw [show F_X8_addPoint 2 8 (nI 8) 16 lf x y = _ from addPoint_full (mo := 8) h1 (by omega)]
        rfl
      · rw [if_pos rfl, if_pos (by decide)]
theorem eq_meant (hT : T ≤ 10) {O : Nat} {oz : Int32} {o tolds : Nat → Int32} (h : OR O oz o tolds) (dx dy b : Int32) : ∃ (r : Int32) (O' : Nat) (o' tolds' : Nat → Int32), F_X8_meant (nI T) oz o dx dy b = some (r, nI O', o') ∧ F_X9_meant (nI T) oz tolds dx dy b = some (r, nI O', tolds') ∧ OR O' (nI O') o' tolds' := by
  obtain ⟨hO, rfl, h2⟩ := h
  have hpw := pow_T hT
  unfold F_X8_meant F_X9_meant
  rw [isArm_cls, isArm_mod, isSet_cls hT, in_mod32, i64_of, nI_shl1 T (by omega), nI_m1 (by omega)]
  simp only [Option.bind_some, gB_if]
  cases h3 : armL dx.toInt64 dy.toInt64
  · exact ⟨-1, O, o, tolds, rfl, rfl, hO, rfl, h2⟩
  · have ha := armL_arm h3
    simp only [if_true]
    show ∃ (r : Int32) (O' : Nat) (o' tolds' : Nat → Int32), _ = _ ∧ (if inb b.toInt 0 ((2 ^ T : Nat) - 1) = true then _ else _) = _ ∧ _
    cases h4 : inb b.toInt 0 ((2 ^ T : Nat) - 1)
    · exact ⟨-1, O, o, tolds, rfl, rfl, hO, rfl, h2⟩
    · simp only [if_true]
      rcases Nat.lt_or_ge O 4 with h5 | h5
      · have e0 : 3 * nI O = nI (3 * O) := pk_mul 3 O
        have e1 : nI (3 * O) + 1 = nI (3 * O + 1) := nI_1 _
        have e2 : nI (3 * O) + 2 = nI (3 * O + 2) := nI_add _ 2
        have k0 : (nI (3 * O)).toNatClampNeg = 3 * O := nI_clamp (by omega)
        have k1 : (nI (3 * O + 1)).toNatClampNeg = 3 * O + 1 := nI_clamp (by omega)
        have k2 : (nI (3 * O + 2)).toNatClampNeg = 3 * O + 2 := nI_clamp (by omega)
        refine ⟨nI (O + 1), O + 1, upd (upd (upd (zr o (O * 3) 3) (O * 3) dx) (O * 3 + 1) dy) (O * 3 + 2) b, upd (upd (upd tolds (3 * O) dx) (3 * O + 1) dy) (3 * O + 2) b, ?_, ?_, by omega, rfl, ?_⟩
        · rw [show F_X4_open 3 4 (nI O) 12 o = _ from open_cls (w := 3) (mo := 4) (n := 12) (by omega) h5 (by omega) (by omega) (by omega)]
          simp only [Option.bind_some]
          rw [if_pos (nI_pos' (by omega)), show ∀ (f : Nat → Int32) v, F_X4_put 3 (nI (O + 1)) 12 f (nI O) 0 v = _ from fun f v => put_cls (w := 3) (S := O + 1) (n := 12) (r := O) (c := 0) (f := f) (v := v) (by omega) (by omega) (by omega) (by omega) (by omega) (by omega)]
          simp only [Option.bind_some]
          rw [show ∀ (f : Nat → Int32) v, F_X4_put 3 (nI (O + 1)) 12 f (nI O) 1 v = _ from fun f v => put_cls (w := 3) (S := O + 1) (n := 12) (r := O) (c := 1) (f := f) (v := v) (by omega) (by omega) (by omega) (by omega) (by omega) (by omega)]
          simp only [Option.bind_some]
          rw [show ∀ (f : Nat → Int32) v, F_X4_put 3 (nI (O + 1)) 12 f (nI O) 2 v = _ from fun f v => put_cls (w := 3) (S := O + 1) (n := 12) (r := O) (c := 2) (f := f) (v := v) (by omega) (by omega) (by omega) (by omega) (by omega) (by omega)]
          rfl
        · simp only [if_neg (show ¬ nI O = 4 from fun e => by
            have := (nI_eq (b := 4) (by omega) (by omega)).mp e
            omega), e0, e1, e2, if_pos (show gvp (nI (3 * O)) 12 from gvp_nI (by omega) (by omega)), if_pos (show gvp (nI (3 * O + 1)) 12 from gvp_nI (by omega) (by omega)), if_pos (show gvp (nI (3 * O + 2)) 12 from gvp_nI (by omega) (by omega)), k0, k1, k2, nI_1]
        · intro k hk
          rw [Nat.mul_comm O 3]
          by_cases e : k = O
          · subst e
            simp only [upd, zr]
            rw [if_neg (show ¬ 3 * k = 3 * k + 2 by omega), if_neg (show ¬ 3 * k = 3 * k + 1 by omega), if_neg (show ¬ 3 * k + 1 = 3 * k + 2 by omega)]
            simp
            exact ha
          · obtain ⟨t1, t2, t3, t4⟩ := h2 k (by omega)
            simp only [upd, zr]
            rw [if_neg (show ¬ 3 * k = 3 * O + 2 by omega), if_neg (show ¬ 3 * k = 3 * O + 1 by omega), if_neg (show ¬ 3 * k = 3 * O by omega), if_neg (show ¬ 3 * k + 1 = 3 * O + 2 by omega), if_neg (show ¬ 3 * k + 1 = 3 * O + 1 by omega), if_neg (show ¬ 3 * k + 1 = 3 * O by omega), if_neg (show ¬ 3 * k + 2 = 3 * O + 2 by omega), if_neg (show ¬ 3 * k + 2 = 3 * O + 1 by omega), if_neg (show ¬ 3 * k + 2 = 3 * O by omega), if_neg (show ¬ 3 * k = 3 * O + 2 by omega), if_neg (show ¬ 3 * k = 3 * O + 1 by omega), if_neg (show ¬ 3 * k = 3 * O by omega), if_neg (show ¬ (3 * O ≤ 3 * k ∧ 3 * k < 3 * O + 3) by omega), if_neg (show ¬ 3 * k + 1 = 3 * O + 2 by omega), if_neg (show ¬ 3 * k + 1 = 3 * O + 1 by omega), if_neg (show ¬ 3 * k + 1 = 3 * O by omega), if_neg (show ¬ (3 * O ≤ 3 * k + 1 ∧ 3 * k + 1 < 3 * O + 3) by omega), if_neg (show ¬ 3 * k + 2 = 3 * O + 2 by omega), if_neg (show ¬ 3 * k + 2 = 3 * O + 1 by omega), if_neg (show ¬ 3 * k + 2 = 3 * O by omega), if_neg (show ¬ (3 * O ≤ 3 * k + 2 ∧ 3 * k + 2 < 3 * O + 3) by omega)]
            exact ⟨t1, t2, t3, t4⟩
      · have e : O = 4 := by omega
        subst e
        refine ⟨-3, 4, o, tolds, ?_, ?_, hO, rfl, h2⟩
        · rw [show F_X4_open 3 4 (nI 4) 12 o = _ from open_full (w := 3) (mo := 4) (s := 4) (n := 12) (Nat.le_refl _) (by omega)]
          rfl
        · rw [if_pos (by decide)]
theorem eq_clear {N L O : Nat} {a : Nat → Nat} {az oz : Int32} {af arms talk : Nat → Int32} (ht : TR P N a az af arms talk) : ∃ r : Int32, F_X8_clear az af (nI L) (nI O) = some (r, 0, 0, 0) ∧ F_X9_clear (nI N) (nI L) (nI O) = some (r, 0, 0, 0) := by
  unfold F_X8_clear F_X9_clear F_X4_size F_X4_empty
  rw [ht.sentences]
  exact ⟨_, rfl, rfl⟩
theorem TR.none {af arms talk : Nat → Int32} : TR P 0 (fun _ => 0) 0 af arms talk := ⟨by omega, by simp [off], rfl, fun s hs => by omega⟩
theorem TR.more {P P' N : Nat} {a : Nat → Nat} {az : Int32} {af arms talk : Nat → Int32} (h : TR P N a az af arms talk) (hp : P ≤ P') : TR P' N a az af arms talk := by
  obtain ⟨h1, h2, h3, h4⟩ := h
  refine ⟨h1, h2, h3, fun s hs => ?_⟩
  obtain ⟨q1, q2, q3, q4⟩ := h4 s hs
  refine ⟨q1, q2, q3, fun j hj => ?_⟩
  obtain ⟨r1, r2, r3, r4, ⟨w, hw, ew⟩, r6⟩ := q4 j hj
  exact ⟨r1, r2, r3, r4, ⟨w, by omega, ew⟩, r6⟩
end Mut2
