/-! when, bargain. -/
def fst (c : Nat → Bool) : Nat → Nat → Option Nat
  | _, 0 => none
  | i, d + 1 => if c i then some i else fst c (i + 1) d
def sgl (s : Nat) : Bool := decide (s ≠ 0 ∧ s &&& (s - 1) = 0)
theorem isOne_cls : ∀ s : Nat, s < 1024 → F_X8_isOne (nI s) = some (gB (sgl s)) := by
  have key : ∀ s : Fin 1024, F_X8_isOne (nI s.val) = some (gB (sgl s.val)) := by decide +kernel
  exact fun s hs => key ⟨s, hs⟩
theorem isSingle_mod : ∀ s : Nat, s < 1024 → F_X9_isSingle (nI s) = some (gB (sgl s)) := by
  have key : ∀ s : Fin 1024, F_X9_isSingle (nI s.val) = some (gB (sgl s.val)) := by decide +kernel
  exact fun s hs => key ⟨s, hs⟩
theorem nI_bit0 {s t : Nat} (hs : s < 1024) (ht : t < 16) : ((nI s >>> (nI t &&& 31)) &&& 1 = 0) ↔ s.testBit t = false := by
  have key : ∀ s : Fin 1024, ∀ t : Fin 16, decide ((nI s.val >>> (nI t.val &&& 31)) &&& 1 = 0) = !s.val.testBit t.val := by decide +kernel
  have h := key ⟨s, hs⟩ ⟨t, ht⟩
  have h2 : (decide ((nI s >>> (nI t &&& 31)) &&& 1 = 0) = true) ↔ ((!s.testBit t) = true) := by rw [h]
  simpa using h2
theorem low_lt : ∀ s : Nat, s < 1024 → s ≠ 0 → low s < 10 := by
  have key : ∀ s : Fin 1024, s.val ≠ 0 → low s.val < 10 := by decide +kernel
  exact fun s hs h => key ⟨s, hs⟩ h
theorem which_loop {s : Nat} (hs : s < 1024) (hz : s ≠ 0) (kk : Int32 → Option Int32) : ∀ (d i fu : Nat), i + d = low s → d < fu → FL_X9_which_2 (nI s) kk fu (nI i) = kk (nI (low s))
  | 0, i, fu + 1, hi, _ => by
    have e : i = low s := by omega
    have hl := low_lt s hs hz
    have := (low_spec s hs hz).1
    subst e
    unfold FL_X9_which_2
    rw [if_neg (by rw [nI_bit0 hs (by omega), this]; decide)]
  | d + 1, i, fu + 1, hi, hfu => by
    have hl := low_lt s hs hz
    have := (low_spec s hs hz).2 i (by omega)
    unfold FL_X9_which_2
    rw [if_pos ((nI_bit0 hs (by omega)).mpr this), nI_1]
    exact which_loop hs hz kk d (i + 1) fu (by omega) (by omega)
theorem which_mod {s : Nat} (hs : s < 1024) (hz : s ≠ 0) : F_X9_which (nI s) = some (nI (low s)) := by
  unfold F_X9_which
  exact which_loop hs hz _ (low s) 0 gN0 (by omega) (by have := gN0_big; have := low_lt s hs hz; omega)
section When
variable {T P : Nat} {fo tu : Int32} {f pf g xs ys laws : Nat → Int32}
theorem rgt {t : Nat} (h : t ≤ 60) : Rg (nI t) 0 60 := nI_rg (by omega) (by omega)
theorem mean_1024 (h : SR T P fo tu f pf g xs ys laws) {x y dx dy tk : Int32} : mean f fo tu T x y dx dy tk < 1024 := Nat.lt_of_lt_of_le (mean_lt _ _ _ _ _ _ _ _ _) (Nat.pow_le_pow_right (by decide) h.1)
theorem mean_is (h : SR T P fo tu f pf g xs ys laws) {x y dx dy tk : Int32} {j : Nat} (hj : j < T) : (nI (mean f fo tu T x y dx dy tk) = (1 : Int32) <<< (nI j &&& 31)) ↔ mean f fo tu T x y dx dy tk = 2 ^ j := by
  have h1 := mean_1024 h (x := x) (y := y) (dx := dx) (dy := dy) (tk := tk)
  have h2 : 2 ^ j < 2 ^ 31 := Nat.pow_lt_pow_right (by decide) (by have := h.1; omega)
  rw [nI_shl1 j (by have := h.1; omega), nI_eq (by omega) h2]
def whenB (f : Nat → Int32) (fo tu : Int32) (T : Nat) (x y dx dy : Int32) (j t : Nat) : Bool := decide (mean f fo tu T x y dx dy (nI t) = 2 ^ j)
theorem when_cls (h : SR T P fo tu f pf g xs ys laws) {k j : Nat} (hk : k < P) (hj : j < T) {dx dy : Int32} (ha : arm dx dy) (kk : Int32 → Option Int32) : ∀ (d i fu : Nat), i + d = 61 → d < fu →
    FL_X8_when_44 (nI T) fo tu f (nI P) pf (nI k) dx dy (nI j) kk fu (nI i) = match fst (whenB f fo tu T (xs k) (ys k) dx dy j) i d with
      | some t => some (nI t)
      | none => kk (nI 61)
  | 0, i, fu + 1, hi, _ => by
    have e : i = 61 := by omega
    subst e
    unfold FL_X8_when_44
    rw [if_pos (by decide)]
    rfl
  | d + 1, i, fu + 1, hi, hfu => by
    unfold FL_X8_when_44
    rw [if_neg (show ¬ (60 : Int32) < nI i from nI_nlt (a := 60) (b := i) (by omega) (by omega)), h.meaning hk ha (rgt (by omega))]
    simp only [Option.bind_some]
    rw [fst]
    by_cases hc : mean f fo tu T (xs k) (ys k) dx dy (nI i) = 2 ^ j
    · rw [if_pos ((mean_is h hj).mpr hc), if_pos (by unfold whenB; simp [hc])]
    · rw [if_neg (by rw [mean_is h hj]; exact hc), if_neg (by unfold whenB; simp [hc]), nI_1]
      exact when_cls h hk hj ha kk d (i + 1) fu (by omega) (by omega)
theorem when_mod (h : SR T P fo tu f pf g xs ys laws) {k j : Nat} (hk : k < P) (hj : j < T) {dx dy : Int32} (ha : arm dx dy) (kk : Int32 → Int32 → Option Int32) : ∀ (d fu : Nat) (l : Int32), d ≤ 61 → d < fu → (l = match fst (whenB f fo tu T (xs k) (ys k) dx dy j) d (61 - d) with
      | some t => nI t
      | none => -4) →
    FL_X9_when_37 (nI T) g xs ys laws (nI k) dx dy (nI j) kk fu l (nI d - 1) = kk (match fst (whenB f fo tu T (xs k) (ys k) dx dy j) 0 61 with
      | some t => nI t
      | none => -4) (-1)
  | 0, fu + 1, l, _, _, hl => by
    unfold FL_X9_when_37
    rw [if_pos (by decide), hl]
    rfl
  | d + 1, fu + 1, l, hd, hfu, hl => by
    unfold FL_X9_when_37
    have hP := h.2.1
    have e3 := (h.2.2.2.2.1 k hk).2.2
    have ck : (nI k).toNatClampNeg = k := nI_clamp (by omega)
    have e1 : nI (d + 1) - 1 = nI d := nI_pred d
    have e2 : nI d + (-1) = nI d - 1 := by
      rw [Int32.sub_eq_add_neg]
    rw [e1, if_neg (nI_neg d (by omega)), e2]
    simp only [if_pos (gvp6 hk hP), ck]
    rw [h.means e3 ha (rgt (by omega))]
    simp only [Option.bind_some]
    have ih := when_mod h hk hj ha kk d fu
    have e4 : 61 - d = (61 - (d + 1)) + 1 := by omega
    by_cases hc : mean f fo tu T (xs k) (ys k) dx dy (nI d) = 2 ^ j
    · rw [if_pos ((mean_is h hj).mpr hc)]
      refine ih _ (by omega) (by omega) ?_
      rw [e4, fst, if_pos (by unfold whenB; simp [hc])]
    · rw [if_neg (by rw [mean_is h hj]; exact hc)]
      refine ih _ (by omega) (by omega) ?_
      rw [e4, fst, if_neg (by unfold whenB; simp [hc])]
      exact hl
theorem eq_when (h : SR T P fo tu f pf g xs ys laws) (p dx dy th : Int32) : ∃ r, F_X8_when (nI T) fo tu f (nI P) pf p dx dy th = some r ∧ F_X9_when (nI T) (nI P) g xs ys laws p dx dy th = some r := by
  have hP := h.2.1
  have hT := h.1
  unfold F_X8_when F_X9_when
  rw [has_cls (by omega), has_cls (by omega), isOne_mod (by omega), isThing_mod (by omega), isArm_cls, isArm_mod]
  simp only [Option.bind_some, gB_if]
  cases h1 : inb p.toInt 0 (P - 1)
  · exact ⟨_, rfl, rfl⟩
  · obtain ⟨k, hk, rfl⟩ := inb_nI h1
    cases h2 : armL dx.toInt64 dy.toInt64
    · exact ⟨_, rfl, rfl⟩
    · cases h3 : inb th.toInt 0 (T - 1)
      · exact ⟨_, rfl, rfl⟩
      · obtain ⟨j, hj, rfl⟩ := inb_nI h3
        simp only [if_true]
        have hg := gN0_big
        refine ⟨match fst (whenB f fo tu T (xs k) (ys k) dx dy j) 0 61 with
          | some t => nI t
          | none => -4, ?_, ?_⟩
        · rw [show (0 : Int32) = nI 0 from rfl, when_cls h hk hj (armL_arm h2) _ 61 0 gN0 (by omega) (by omega)]
          cases fst (whenB f fo tu T (xs k) (ys k) dx dy j) 0 61 <;> rfl
        · have := when_mod h hk hj (armL_arm h2) (fun l5_37 _ => some l5_37) 61 gN0 (-4) (by omega) (by omega) rfl
          rw [show nI 61 - 1 = (60 : Int32) from by decide] at this
          exact this
theorem eq_bargain (h : SR T P fo tu f pf g xs ys laws) (p dx dy q ex ey : Int32) : ∃ r, F_X8_bargain (nI T) fo tu f (nI P) pf p dx dy q ex ey = some r ∧ F_X9_bargain (nI T) (nI P) g xs ys laws p dx dy q ex ey = some r := by
  have hP := h.2.1
  unfold F_X8_bargain F_X9_bargain F_X8_areTwo
  rw [has_cls (by omega), has_cls (by omega), isOne_mod (by omega), isOne_mod (by omega), isArm_cls, isArm_mod, isArm_cls, isArm_mod]
  simp only [Option.bind_some, gB_if]
  cases h1 : inb p.toInt 0 (P - 1)
  · exact ⟨-1, by simp, by simp⟩
  · obtain ⟨k, hk, rfl⟩ := inb_nI h1
    cases h3 : inb q.toInt 0 (P - 1)
    · refine ⟨-1, by simp, ?_⟩
      cases h2 : armL dx.toInt64 dy.toInt64 <;> simp
    · obtain ⟨j, hj, rfl⟩ := inb_nI h3
      by_cases hq : nI k = nI j
      · refine ⟨-1, by simp [hq], ?_⟩
        cases h2 : armL dx.toInt64 dy.toInt64 <;> cases h4 : armL ex.toInt64 ey.toInt64 <;> simp [hq]
      · cases h2 : armL dx.toInt64 dy.toInt64
        · exact ⟨-1, by simp [hq], by simp⟩
        · cases h4 : armL ex.toInt64 ey.toInt64
          · exact ⟨-1, by simp [hq], by simp⟩
          · have ek := (h.2.2.2.2.1 k hk).2.2
            have ej := (h.2.2.2.2.1 j hj).2.2
            have ck : (nI k).toNatClampNeg = k := nI_clamp (by omega)
            have cj : (nI j).toNatClampNeg = j := nI_clamp (by omega)
            simp only [if_true, if_neg hq, Option.bind_some, if_pos (gvp6 hk hP), if_pos (gvp6 hj hP), ck, cj]
            rw [if_neg (by decide), h.meaning hk (armL_arm h2) rg0, h.meaning hj (armL_arm h4) rg0, h.meaning hj (armL_arm h2) rg0, h.meaning hk (armL_arm h4) rg0, h.means ek (armL_arm h2) rg0, h.means ej (armL_arm h4) rg0, h.means ej (armL_arm h2) rg0, h.means ek (armL_arm h4) rg0]
            have b1 := mean_1024 h (x := xs k) (y := ys k) (dx := dx) (dy := dy) (tk := 0)
            have b2 := mean_1024 h (x := xs j) (y := ys j) (dx := ex) (dy := ey) (tk := 0)
            have b3 := mean_1024 h (x := xs j) (y := ys j) (dx := dx) (dy := dy) (tk := 0)
            have b4 := mean_1024 h (x := xs k) (y := ys k) (dx := ex) (dy := ey) (tk := 0)
            generalize mean f fo tu T (xs k) (ys k) dx dy 0 = A at b1 ⊢
            generalize mean f fo tu T (xs j) (ys j) ex ey 0 = B at b2 ⊢
            generalize mean f fo tu T (xs j) (ys j) dx dy 0 = C at b3 ⊢
            generalize mean f fo tu T (xs k) (ys k) ex ey 0 = D at b4 ⊢
            simp only [Option.bind_some]
            rw [isOne_cls A b1, isOne_cls B b2, isSingle_mod A b1, isSingle_mod B b2]
            simp only [Option.bind_some, gB_if]
            have n1 : (nI A = nI B) ↔ A = B := nI_eq (by omega) (by omega)
            have n2 : (nI C = nI A) ↔ C = A := nI_eq (by omega) (by omega)
            have n3 : (nI D = nI B) ↔ D = B := nI_eq (by omega) (by omega)
            have n4 : (nI A = nI C) ↔ A = C := nI_eq (by omega) (by omega)
            have n5 : (nI B = nI D) ↔ B = D := nI_eq (by omega) (by omega)
            simp only [n1, n2, n3, n4, n5]
            cases hA : sgl A
            · refine ⟨-2, by simp, ?_⟩
              by_cases q1 : A = C <;> by_cases q2 : B = D <;> simp [q1, q2]
            · cases hB : sgl B
              · refine ⟨-2, by simp, ?_⟩
                by_cases q1 : A = C <;> by_cases q2 : B = D <;> simp [q1, q2]
              · have zA : A ≠ 0 := by
                  intro e
                  rw [e] at hA
                  cases hA
                have zB : B ≠ 0 := by
                  intro e
                  rw [e] at hB
                  cases hB
                rw [ntz_low A b1 zA, ntz_low B b2 zB, which_mod b1 zA, which_mod b2 zB]
                simp only [Option.bind_some, if_true]
                by_cases q0 : A = B
                · refine ⟨-2, by simp [q0], ?_⟩
                  by_cases q1 : A = C <;> by_cases q2 : B = D <;> simp [q0, q1, q2]
                · by_cases q1 : C = A
                  · by_cases q2 : D = B
                    · exact ⟨_, by rw [if_neg q0, if_pos q1, if_pos q2], by rw [if_pos q1.symm, if_pos q2.symm, if_neg q0]⟩
                    · exact ⟨-2, by rw [if_neg q0, if_pos q1, if_neg q2], by rw [if_pos q1.symm, if_neg (fun e => q2 e.symm)]⟩
                  · exact ⟨-2, by rw [if_neg q0, if_neg q1], by rw [if_neg (fun e => q1 e.symm)]⟩
end When
