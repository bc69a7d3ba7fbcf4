/-! A thing meant alone: the class asks of this thing first, the model compares the meaning. -/
def ahd (f : Nat → Int32) (dx dy tk : Int32) (o k : Nat) : Bool := klt f dx dy tk o k || (decide (key f dx dy tk o = key f dx dy tk k) && decide (o < k))
theorem ahd_iff {f : Nat → Int32} {dx dy tk : Int32} {o k : Nat} : ahd f dx dy tk o k = true ↔ ((key f dx dy tk o).toInt < (key f dx dy tk k).toInt ∨ ((key f dx dy tk o).toInt = (key f dx dy tk k).toInt ∧ o < k)) := by
  unfold ahd klt
  simp only [Bool.or_eq_true, Bool.and_eq_true, decide_eq_true_eq]
  rw [gI_lt, gI_eq]
theorem amin_best {f : Nat → Int32} {dx dy tk : Int32} {s : Nat} : ∀ {n k : Nat}, amin (klt f dx dy tk) s n = some k → ∀ o, o < n → o ≠ k → s.testBit o = true → ahd f dx dy tk o k = false
  | 0, k, h, o, ho, _, _ => by omega
  | n + 1, k, h, o, ho, hok, hb => by
    unfold amin at h
    by_cases hn : s.testBit n = true
    · rw [if_pos hn] at h
      cases ha : amin (klt f dx dy tk) s n with
      | none =>
        rw [ha] at h
        cases h
        exfalso
        have hnone : ∀ {m : Nat}, amin (klt f dx dy tk) s m = none → ∀ j, j < m → s.testBit j = false := by
          intro m
          induction m with
          | zero => intro _ j hj; omega
          | succ m ih =>
            intro hm j hj
            rw [amin] at hm
            by_cases hbm : s.testBit m = true
            · rw [if_pos hbm] at hm
              cases hx : amin (klt f dx dy tk) s m with
              | none => rw [hx] at hm; cases hm
              | some q => rw [hx] at hm; by_cases hl : klt f dx dy tk m q = true <;> simp [hl] at hm
            · rw [if_neg hbm] at hm
              rcases Nat.lt_or_ge j m with h1 | h1
              · exact ih hm j h1
              · have : j = m := by omega
                rw [this]
                simpa using hbm
        have := hnone ha o (by omega)
        rw [this] at hb
        cases hb
      | some q =>
        rw [ha] at h
        have hq := amin_lt ha
        by_cases hl : klt f dx dy tk n q = true
        · simp only [hl, if_true] at h
          cases h
          rcases Nat.lt_or_ge o n with h1 | h1
          · have hl2 : (key f dx dy tk n).toInt < (key f dx dy tk q).toInt := by
              unfold klt at hl
              rw [decide_eq_true_eq, gI_lt] at hl
              exact hl
            by_cases hoq : o = q
            · subst hoq
              have : ¬ ahd f dx dy tk o n = true := by rw [ahd_iff]; omega
              simpa using this
            · have hx := amin_best ha o h1 hoq hb
              have hx2 : ¬ ahd f dx dy tk o q = true := by rw [hx]; decide
              rw [ahd_iff] at hx2
              have : ¬ ahd f dx dy tk o n = true := by rw [ahd_iff]; omega
              simpa using this
          · omega
        · have hl3 : klt f dx dy tk n q = false := by simpa using hl
          have h' : some q = some k := by simpa [hl3] using h
          obtain rfl := Option.some.inj h'
          rcases Nat.lt_or_ge o n with h1 | h1
          · exact amin_best ha o h1 hok hb
          · have e : o = n := by omega
            subst e
            have hl2 : ¬ (key f dx dy tk o).toInt < (key f dx dy tk q).toInt := by
              unfold klt at hl
              rw [decide_eq_true_eq, gI_lt] at hl
              exact hl
            have : ¬ ahd f dx dy tk o q = true := by rw [ahd_iff]; omega
            simpa using this
    · rw [if_neg hn] at h
      rcases Nat.lt_or_ge o n with h1 | h1
      · exact amin_best h o h1 hok hb
      · have e : o = n := by omega
        subst e
        exact absurd hb hn
theorem amin_some {lt : Nat → Nat → Bool} {s : Nat} : ∀ {n j : Nat}, j < n → s.testBit j = true → ∃ k, amin lt s n = some k
  | 0, j, h, _ => by omega
  | n + 1, j, h, hb => by
    rw [amin]
    by_cases hn : s.testBit n = true
    · rw [if_pos hn]
      cases amin lt s n with
      | none => exact ⟨n, rfl⟩
      | some q =>
        by_cases hl : lt n q = true
        · exact ⟨n, by simp [hl]⟩
        · exact ⟨q, by simp [hl]⟩
    · rw [if_neg hn]
      rcases Nat.lt_or_ge j n with h1 | h1
      · exact amin_some h1 hb
      · have : j = n := by omega
        rw [this] at hb
        exact absurd hb hn
/-- whether an arm means thing j alone, by the class's questions -/
def justB (f : Nat → Int32) (fo tu : Int32) (T : Nat) (x y dx dy : Int32) (j : Nat) : Bool := decide (mean f fo tu T x y dx dy 0 = 2 ^ j)
def bad (f : Nat → Int32) (fo tu : Int32) (x y dx dy : Int32) (j o : Nat) : Bool := !decide (o = j) && ((decide (fo = 0) || ahd f dx dy 0 o j) && met f tu x y dx dy 0 o)
def anyF (p : Nat → Bool) : Nat → Nat → Bool
  | _, 0 => false
  | i, d + 1 => p i || anyF p (i + 1) d
theorem anyF_iff {p : Nat → Bool} : ∀ {d i : Nat}, anyF p i d = true ↔ ∃ o, i ≤ o ∧ o < i + d ∧ p o = true
  | 0, i => by
    constructor
    · intro h; cases h
    · rintro ⟨o, h1, h2, -⟩; omega
  | d + 1, i => by
    rw [anyF, Bool.or_eq_true, anyF_iff]
    constructor
    · rintro (h | ⟨o, h1, h2, h3⟩)
      · exact ⟨i, Nat.le_refl _, by omega, h⟩
      · exact ⟨o, by omega, by omega, h3⟩
    · rintro ⟨o, h1, h2, h3⟩
      rcases Nat.eq_or_lt_of_le h1 with e | h4
      · exact Or.inl (by rw [e]; exact h3)
      · exact Or.inr ⟨o, h4, by omega, h3⟩
theorem eq_pow_of_bits {s j : Nat} (h : ∀ i, s.testBit i = decide (i = j)) : s = 2 ^ j := by
  apply Nat.eq_of_testBit_eq
  intro i
  rw [h, Nat.testBit_two_pow]
  by_cases e : i = j
  · simp [e]
  · have : ¬ j = i := fun q => e q.symm
    simp [e, this]
theorem just_iff {f : Nat → Int32} {fo tu : Int32} {T : Nat} {x y dx dy : Int32} {j : Nat} (hj : j < T) : justB f fo tu T x y dx dy j = (met f tu x y dx dy 0 j && !anyF (bad f fo tu x y dx dy j) 0 T) := by
  have hbit : ∀ i, (mset f tu T x y dx dy 0).testBit i = (decide (i < T) && met f tu x y dx dy 0 i) := fun i => bset_test _ _ _
  apply Bool.eq_iff_iff.mpr
  unfold justB
  rw [decide_eq_true_eq, Bool.and_eq_true, Bool.not_eq_true', ← Bool.not_eq_true, anyF_iff]
  unfold mean
  by_cases h0 : fo = 0
  · rw [nar_0 h0]
    constructor
    · intro h
      have hj2 := hbit j
      rw [h, Nat.testBit_two_pow_self] at hj2
      simp [hj] at hj2
      refine ⟨hj2, ?_⟩
      rintro ⟨o, -, ho, hb⟩
      have ho2 := hbit o
      rw [h, Nat.testBit_two_pow] at ho2
      unfold bad at hb
      simp only [Bool.and_eq_true, Bool.not_eq_true', decide_eq_false_iff_not] at hb
      have : ¬ j = o := fun q => hb.1 q.symm
      rw [hb.2.2] at ho2
      simp [this] at ho2
      omega
    · rintro ⟨h1, h2⟩
      apply eq_pow_of_bits
      intro i
      rw [hbit]
      by_cases e : i = j
      · subst e
        simp [hj, h1]
      · simp only [e, decide_false, Bool.and_eq_false_imp, decide_eq_true_eq]
        intro hi
        apply Bool.eq_false_iff.mpr
        intro hm
        exact h2 ⟨i, by omega, by omega, by unfold bad; simp [e, h0, hm]⟩
  · rw [nar_1 h0]
    constructor
    · intro h
      cases ha : amin (klt f dx dy 0) (mset f tu T x y dx dy 0) T with
      | none =>
        rw [ha] at h
        have h : mset f tu T x y dx dy 0 = 2 ^ j := h
        exfalso
        obtain ⟨k, hk⟩ := amin_some (lt := klt f dx dy 0) (s := mset f tu T x y dx dy 0) hj (by rw [h, Nat.testBit_two_pow_self])
        rw [hk] at ha
        cases ha
      | some k =>
        rw [ha] at h
        have h : 2 ^ k = 2 ^ j := h
        have hkj : k = j := (Nat.pow_right_inj (by decide)).mp h
        subst hkj
        have hk := amin_lt ha
        rw [hbit] at hk
        simp at hk
        refine ⟨hk.2, ?_⟩
        rintro ⟨o, -, ho, hb⟩
        unfold bad at hb
        simp only [Bool.and_eq_true, Bool.not_eq_true', decide_eq_false_iff_not, Bool.or_eq_true, decide_eq_true_eq] at hb
        have := amin_best ha o (by omega) hb.1 (by rw [hbit, hb.2.2]; simp; omega)
        rcases hb.2.1 with h3 | h3
        · exact h0 h3
        · rw [this] at h3
          cases h3
    · rintro ⟨h1, h2⟩
      obtain ⟨k, hk⟩ := amin_some (lt := klt f dx dy 0) (s := mset f tu T x y dx dy 0) hj (by rw [hbit, h1]; simp [hj])
      rw [hk]
      have hkl := amin_lt hk
      by_cases e : k = j
      · rw [e]
      · exfalso
        have hm : met f tu x y dx dy 0 k = true := by
          have := hkl.2
          rw [hbit] at this
          simp at this
          exact this.2
        have a1 := amin_best hk j hj (fun q => e q.symm) (by rw [hbit, h1]; simp [hj])
        have a2 : ¬ ahd f dx dy 0 k j = true := by
          intro q
          exact h2 ⟨k, by omega, by omega, by unfold bad; simp [e, q, hm]⟩
        have a3 : ¬ ahd f dx dy 0 j k = true := by rw [a1]; decide
        rw [ahd_iff] at a2 a3
        omega
theorem just_loop {f : Nat → Int32} {fo tu : Int32} {T : Nat} {x y dx dy : Int32} {j : Nat} (hf : gScn f T) (hT : T ≤ 10) (hj : j < T) (hp : pt x y) (ha : arm dx dy) (kk : Int32 → Option Int32) : ∀ (d i fu : Nat), i + d = T → d < fu →
    FL_X2_meansJust_20 (nI T) fo tu f (nI j) x y dx dy kk fu (nI i) = if anyF (bad f fo tu x y dx dy j) i d then some 0 else kk (nI T)
  | 0, i, fu + 1, hi, _ => by
    have e : i = T := by omega
    subst e
    unfold FL_X2_meansJust_20 F_X4_size
    simp only [Option.bind_some]
    rw [if_pos (nI_le (Nat.le_refl _) (by omega))]
    rfl
  | d + 1, i, fu + 1, hi, hfu => by
    have ih := just_loop hf hT hj hp ha (fo := fo) (tu := tu) kk d (i + 1) fu (by omega) (by omega)
    unfold FL_X2_meansJust_20 F_X4_size
    simp only [Option.bind_some]
    rw [if_neg (nI_ge (by omega) (by omega)), nI_1, ih, anyF]
    by_cases e : i = j
    · rw [if_pos (by rw [e])]
      have : bad f fo tu x y dx dy j i = false := by unfold bad; simp [e]
      rw [this, Bool.false_or]
    · rw [if_neg (by rw [nI_eq (by omega) (by omega)]; exact e), met_cls hf hT (by omega) hp ha rg0, isAhead_cls hT (by omega) hj]
      simp only [Option.bind_some, gB_if]
      have eb : bad f fo tu x y dx dy j i = ((decide (fo = 0) || ahd f dx dy 0 i j) && met f tu x y dx dy 0 i) := by unfold bad; simp [e]
      rw [eb]
      show _ = if (((decide (fo = 0) || ahd f dx dy 0 i j) && met f tu x y dx dy 0 i) || anyF (bad f fo tu x y dx dy j) (i + 1) d) = true then some 0 else kk (nI T)
      by_cases h0 : fo = 0
      · rw [if_pos h0]
        cases hm : met f tu x y dx dy 0 i <;> simp [h0]
      · rw [if_neg h0]
        show (if ahd f dx dy 0 i j = true then _ else _) = _
        cases hh : ahd f dx dy 0 i j <;> cases hm : met f tu x y dx dy 0 i <;> simp [h0]
theorem just_cls {f : Nat → Int32} {fo tu : Int32} {T : Nat} {x y dx dy : Int32} {j : Nat} (hf : gScn f T) (hT : T ≤ 10) (hj : j < T) (hp : pt x y) (ha : arm dx dy) : F_X2_meansJust (nI T) fo tu f (nI j) x y dx dy = some (gB (justB f fo tu T x y dx dy j)) := by
  have hg := gN0_big
  unfold F_X2_meansJust
  rw [met_cls hf hT hj hp ha rg0, just_iff hj]
  simp only [Option.bind_some, gB_if]
  have e := just_loop hf hT hj hp ha (fo := fo) (tu := tu) (fun _ => some 1) T 0 gN0 (by omega) (by omega)
  rw [show nI 0 = (0 : Int32) from rfl] at e
  rw [e]
  cases met f tu x y dx dy 0 j <;> cases anyF (bad f fo tu x y dx dy j) 0 T <;> rfl
