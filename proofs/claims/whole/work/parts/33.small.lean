/-! The small tests of both sides, as truth values. -/
def inb (v lo hi : Int) : Bool := decide (lo ≤ v ∧ v ≤ hi)
theorem inb_t {v lo hi : Int} : inb v lo hi = true ↔ lo ≤ v ∧ v ≤ hi := by simp [inb]
theorem inb_f {v lo hi : Int} : inb v lo hi = false ↔ v < lo ∨ hi < v := by
  simp [inb]
  omega
theorem I64_lt (a b : Int64) : a < b ↔ a.toInt < b.toInt := Int64.lt_iff_toInt_lt
theorem I64_le (a b : Int64) : a ≤ b ↔ a.toInt ≤ b.toInt := Int64.le_iff_toInt_le
theorem I64_eq (a b : Int64) : a = b ↔ a.toInt = b.toInt := Int64.toInt_inj.symm
theorem gB_ne {b : Bool} (h : b = true) : ¬ gB b = 0 := by rw [h]; decide
theorem gB_eq {b : Bool} (h : b = false) : gB b = 0 := by rw [h]; rfl
theorem gB_t : gB true = 1 := rfl
theorem gB_f : gB false = 0 := rfl
/-- a test, then two ways -/
theorem gB_if {α : Type} (b : Bool) (x y : α) : (if gB b = 0 then x else y) = if b then y else x := by cases b <;> rfl
theorem in_mod (v lo hi : Int64) : F_X9_in v lo hi = some (gB (inb v.toInt lo.toInt hi.toInt)) := by
  unfold F_X9_in
  by_cases h1 : v.toInt < lo.toInt
  · rw [if_pos ((lg_cmp_lt v lo).mpr ((I64_lt _ _).mpr h1)), gB, inb_f.mpr (Or.inl h1)]
    rfl
  · rw [if_neg (by rw [lg_cmp_lt, I64_lt]; exact h1)]
    by_cases h2 : hi.toInt < v.toInt
    · rw [if_pos ((lg_cmp_gt v hi).mpr ((I64_lt _ _).mpr h2)), inb_f.mpr (Or.inr h2)]
      rfl
    · rw [if_neg (by rw [lg_cmp_gt, I64_lt]; exact h2), inb_t.mpr (by omega)]
      rfl
theorem i64_of (x : Int32) : x.toInt64.toInt = x.toInt := Int32.toInt_toInt64 x
theorem in_mod32 (x : Int32) (lo hi : Int64) : F_X9_in x.toInt64 lo hi = some (gB (inb x.toInt lo.toInt hi.toInt)) := by rw [in_mod, i64_of]
def ptB (x y : Int32) : Bool := inb x.toInt 0 20 && inb y.toInt 0 20
theorem ptB_t {x y : Int32} : ptB x y = true ↔ pt x y := by
  unfold ptB pt
  rw [Bool.and_eq_true, inb_t, inb_t]
theorem lit_lt (x : Int32) (n : Int32) : x < n ↔ x.toInt < n.toInt := gI_lt x n
theorem isPoint_cls (x y : Int32) : F_X8_isPoint x y = some (gB (ptB x y)) := by
  unfold F_X8_isPoint ptB
  have e1 : (x < 0) ↔ x.toInt < 0 := gI_lt x 0
  have e2 : ((21 : Int32) ≤ x) ↔ 21 ≤ x.toInt := gI_le 21 x
  have e3 : (y < 0) ↔ y.toInt < 0 := gI_lt y 0
  have e4 : ((21 : Int32) ≤ y) ↔ 21 ≤ y.toInt := gI_le 21 y
  by_cases h1 : x.toInt < 0
  · rw [if_pos (e1.mpr h1), inb_f.mpr (Or.inl h1)]; rfl
  · rw [if_neg (by rw [e1]; exact h1)]
    by_cases h2 : 21 ≤ x.toInt
    · rw [if_pos (e2.mpr h2), inb_f.mpr (Or.inr (by omega))]; rfl
    · rw [if_neg (by rw [e2]; exact h2), inb_t.mpr (by omega)]
      by_cases h3 : y.toInt < 0
      · rw [if_pos (e3.mpr h3), inb_f.mpr (Or.inl h3)]; rfl
      · rw [if_neg (by rw [e3]; exact h3)]
        by_cases h4 : 21 ≤ y.toInt
        · rw [if_pos (e4.mpr h4), inb_f.mpr (Or.inr (by omega))]; rfl
        · rw [if_neg (by rw [e4]; exact h4), inb_t.mpr (by omega)]; rfl
theorem isPoint_mod (x y : Int32) : F_X9_isPoint x y = some (gB (ptB x y)) := by
  unfold F_X9_isPoint ptB
  rw [in_mod32, in_mod32]
  simp only [Option.bind_some, gB_if]
  show (if inb x.toInt 0 20 = true then if inb y.toInt 0 20 = true then some 1 else some 0 else some 0) = _
  cases inb x.toInt 0 20 <;> cases inb y.toInt 0 20 <;> rfl
def armL (dx dy : Int64) : Bool := inb dx.toInt (-9) 9 && (inb dy.toInt (-9) 9 && !(decide (dx.toInt = 0) && decide (dy.toInt = 0)))
theorem isArm_mod (dx dy : Int64) : F_X9_isArm dx dy = some (gB (armL dx dy)) := by
  unfold F_X9_isArm armL
  rw [in_mod, in_mod]
  simp only [Option.bind_some, gB_if]
  have e1 : (lg_cmp dx 0 = 0) ↔ dx.toInt = 0 := by rw [lg_cmp_eq, I64_eq]; rfl
  have e2 : (lg_cmp dy 0 = 0) ↔ dy.toInt = 0 := by rw [lg_cmp_eq, I64_eq]; rfl
  show (if inb dx.toInt (-9) 9 = true then if inb dy.toInt (-9) 9 = true then if lg_cmp dx 0 = 0 then if lg_cmp dy 0 = 0 then some 0 else some 1 else some 1 else some 0 else some 0) = _
  cases inb dx.toInt (-9) 9 <;> cases inb dy.toInt (-9) 9 <;> try rfl
  by_cases h1 : dx.toInt = 0
  · by_cases h2 : dy.toInt = 0
    · simp [e1, e2, h1, h2, gB]
    · simp [e1, e2, h1, h2, gB]
  · simp [e1, h1, gB]
theorem isArm_cls (dx dy : Int64) : F_X8_isArm dx dy = some (gB (armL dx dy)) := by
  rw [← isArm_mod]
  unfold F_X8_isArm F_X9_isArm
  rw [in_mod, in_mod]
  simp only [Option.bind_some, gB_if]
  have c1 : (lg_cmp dx (-9) < 0) ↔ dx.toInt < -9 := by rw [lg_cmp_lt, I64_lt]; rfl
  have c2 : (0 < lg_cmp dx 9) ↔ 9 < dx.toInt := by rw [lg_cmp_gt, I64_lt]; rfl
  have c3 : (lg_cmp dy (-9) < 0) ↔ dy.toInt < -9 := by rw [lg_cmp_lt, I64_lt]; rfl
  have c4 : (0 < lg_cmp dy 9) ↔ 9 < dy.toInt := by rw [lg_cmp_gt, I64_lt]; rfl
  show _ = (if inb dx.toInt (-9) 9 = true then if inb dy.toInt (-9) 9 = true then _ else some 0 else some 0)
  by_cases h1 : dx.toInt < -9
  · rw [if_pos (c1.mpr h1), inb_f.mpr (Or.inl h1)]; rfl
  · rw [if_neg (by rw [c1]; exact h1)]
    by_cases h2 : 9 < dx.toInt
    · rw [if_pos (c2.mpr h2), inb_f.mpr (Or.inr h2)]; rfl
    · rw [if_neg (by rw [c2]; exact h2), inb_t.mpr (by omega)]
      by_cases h3 : dy.toInt < -9
      · rw [if_pos (c3.mpr h3), inb_f.mpr (Or.inl h3)]; rfl
      · rw [if_neg (by rw [c3]; exact h3)]
        by_cases h4 : 9 < dy.toInt
        · rw [if_pos (c4.mpr h4), inb_f.mpr (Or.inr h4)]; rfl
        · rw [if_neg (by rw [c4]; exact h4), inb_t.mpr (by omega)]; rfl
theorem armL_arm {dx dy : Int32} (h : armL dx.toInt64 dy.toInt64 = true) : arm dx dy := by
  unfold armL at h
  rw [i64_of, i64_of, Bool.and_eq_true, Bool.and_eq_true, inb_t, inb_t] at h
  exact ⟨h.1, h.2.1⟩
theorem one_bit (b : Bool) {α : Type} (x : α) (y : Option α) : (if gB b &&& 1 = gB b then some x else y) = some x := by rw [if_pos (gB_and1 b)]
theorem isTick_mod (t : Int32) : F_X9_isTick t = some (gB (inb t.toInt 0 60)) := by
  unfold F_X9_isTick
  rw [in_mod32]
  simp only [Option.bind_some, one_bit]
  rfl
theorem isLane_mod (t : Int32) : F_X9_isLane t = some (gB (inb t.toInt 0 2)) := by
  unfold F_X9_isLane
  rw [in_mod32]
  simp only [Option.bind_some, one_bit]
  rfl
theorem two_tests {lo hi : Int} {t : Int32} {c1 c2 : Prop} [Decidable c1] [Decidable c2] (e1 : c1 ↔ t.toInt < lo) (e2 : c2 ↔ hi < t.toInt) : (if c1 then some (0 : Int32) else if c2 then some 0 else some 1) = some (gB (inb t.toInt lo hi)) := by
  by_cases h1 : t.toInt < lo
  · rw [if_pos (e1.mpr h1), inb_f.mpr (Or.inl h1)]; rfl
  · rw [if_neg (by rw [e1]; exact h1)]
    by_cases h2 : hi < t.toInt
    · rw [if_pos (e2.mpr h2), inb_f.mpr (Or.inr h2)]; rfl
    · rw [if_neg (by rw [e2]; exact h2), inb_t.mpr (by omega)]; rfl
theorem le_pred {a : Int32} {t : Int32} {n : Int} (h : a.toInt = n) : (a ≤ t) ↔ n - 1 < t.toInt := by
  rw [gI_le, h]
  omega
theorem isTick_cls (t : Int32) : F_X8_isTick t = some (gB (inb t.toInt 0 60)) := by
  unfold F_X8_isTick
  exact two_tests (gI_lt t 0) (gI_lt 60 t)
theorem isLane_cls (t : Int32) : F_X8_isLane t = some (gB (inb t.toInt 0 2)) := by
  unfold F_X8_isLane
  exact two_tests (gI_lt t 0) (le_pred (a := 3) (n := 3) rfl)
theorem has_cls {n : Nat} (hn : n < 2 ^ 31) (r : Int32) : F_X4_has (nI n) r = some (gB (inb r.toInt 0 (n - 1))) := by
  unfold F_X4_has
  exact two_tests (gI_lt r 0) (le_pred (nI_toInt hn))
theorem nI_m1 {n : Nat} (hn : n < 2 ^ 31) : (nI n - 1).toInt = (n : Int) - 1 := by
  have e := nI_toInt hn
  have := fb_subI (x := nI n) (y := 1) (by rw [e]; show -2147483648 ≤ (n : Int) - 1; omega) (by rw [e]; show (n : Int) - 1 < 2147483648; omega)
  rw [this, e]
  rfl
theorem isThing_mod {n : Nat} (hn : n < 2 ^ 31) (r : Int32) : F_X9_isThing (nI n) r = some (gB (inb r.toInt 0 (n - 1))) := by
  unfold F_X9_isThing
  rw [in_mod32]
  simp only [Option.bind_some, one_bit]
  rw [i64_of, nI_m1 hn]
  rfl
theorem isOne_mod {n : Nat} (hn : n < 2 ^ 31) (r : Int32) : F_X9_isOne (nI n) r = some (gB (inb r.toInt 0 (n - 1))) := by
  unfold F_X9_isOne
  rw [in_mod32]
  simp only [Option.bind_some, one_bit]
  rw [i64_of, nI_m1 hn]
  rfl
/-- a number in range is one of ours -/
theorem inb_nI {r : Int32} {n : Nat} (h : inb r.toInt 0 (n - 1) = true) : ∃ k, k < n ∧ r = nI k := by
  rw [inb_t] at h
  refine ⟨r.toInt.toNat, by omega, ?_⟩
  apply Int32.toInt_inj.mp
  have := fb_rng r
  rw [nI_toInt (by omega)]
  omega
def fitB (c v : Int32) : Bool := if c = 0 ∨ c = 1 then inb v.toInt 0 20 else if c = 2 then inb v.toInt 0 5 else if c = 3 ∨ c = 4 then inb v.toInt (-3) 3 else false
theorem fits_cls (c v : Int32) : F_X8_fits c v = some (gB (fitB c v)) := by
  unfold F_X8_fits fitB
  have t0 : (if v < 0 then some (0 : Int32) else if (21 : Int32) ≤ v then some 0 else some 1) = some (gB (inb v.toInt 0 20)) := two_tests (gI_lt v 0) (le_pred (a := 21) (n := 21) rfl)
  have t2 : (if v < 0 then some (0 : Int32) else if (5 : Int32) < v then some 0 else some 1) = some (gB (inb v.toInt 0 5)) := two_tests (gI_lt v 0) (gI_lt 5 v)
  have t3 : (if v < (-3) then some (0 : Int32) else if (3 : Int32) < v then some 0 else some 1) = some (gB (inb v.toInt (-3) 3)) := two_tests (gI_lt v (-3)) (gI_lt 3 v)
  rw [t0, t2, t3]
  by_cases h0 : c = 0
  · rw [if_pos h0, if_pos (Or.inl h0)]
  · by_cases h1 : c = 1
    · rw [if_neg h0, if_pos h1, if_pos (Or.inr h1)]
    · rw [if_neg h0, if_neg h1, if_neg (show ¬ (c = 0 ∨ c = 1) from fun h => h.elim h0 h1)]
      by_cases h2 : c = 2
      · rw [if_pos h2, if_pos h2]
      · rw [if_neg h2, if_neg h2]
        by_cases h3 : c = 3
        · rw [if_pos h3, if_pos (Or.inl h3)]
        · by_cases h4 : c = 4
          · rw [if_neg h3, if_pos h4, if_pos (Or.inr h4)]
          · rw [if_neg h3, if_neg h4, if_neg (show ¬ (c = 3 ∨ c = 4) from fun h => h.elim h3 h4)]
            rfl
