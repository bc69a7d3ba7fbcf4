/-! The sets that an arm meets and means: both sides. -/
theorem gB_0 (b : Bool) : gB b = 0 ↔ b = false := by cases b <;> decide
theorem gB_and1 (b : Bool) : gB b &&& 1 = gB b := by cases b <;> decide
theorem nI_or0 (a : Nat) : nI a ||| 0 = nI a := by
  show nI a ||| nI 0 = _
  rw [nI_or, Nat.or_zero]
theorem bset_congr {p q : Nat → Bool} : ∀ {n : Nat}, (∀ t, t < n → p t = q t) → bset p n = bset q n
  | 0, _ => rfl
  | n + 1, h => by rw [bset, bset, bset_congr (fun t ht => h t (by omega)), h n (by omega)]
def mset (f : Nat → Int32) (tu : Int32) (T : Nat) (x y dx dy tk : Int32) : Nat := bset (met f tu x y dx dy tk) T
theorem mset_lt (f : Nat → Int32) (tu : Int32) (T : Nat) (x y dx dy tk : Int32) : mset f tu T x y dx dy tk < 2 ^ T := bset_lt _ _
/-- the class's loop over things -/
theorem metBy_loop {f : Nat → Int32} {T : Nat} {tu x y dx dy tk : Int32} (hf : gScn f T) (hT : T ≤ 10) (hp : pt x y) (ha : arm dx dy) (hk : Rg tk 0 60) (kk : Int32 → Int32 → Option Int32) : ∀ (d i fu : Nat), i + d = T → d < fu →
    FL_X2_metBy_6 (nI T) tu f x y dx dy tk kk fu (nI (bset (met f tu x y dx dy tk) i)) (nI i) = kk (nI (bset (met f tu x y dx dy tk) T)) (nI T)
  | 0, i, fu + 1, hi, _ => by
    have e : i = T := by omega
    subst e
    unfold FL_X2_metBy_6 F_X4_size
    simp only [Option.bind_some]
    rw [if_pos (nI_le (Nat.le_refl _) (by omega))]
  | d + 1, i, fu + 1, hi, hfu => by
    unfold FL_X2_metBy_6 F_X4_size
    simp only [Option.bind_some]
    rw [if_neg (nI_ge (by omega) (by omega)), met_cls hf hT (by omega) hp ha hk]
    simp only [Option.bind_some]
    have ih := metBy_loop hf hT hp ha hk (tu := tu) kk d (i + 1) fu (by omega) (by omega)
    rw [bset] at ih
    cases h : met f tu x y dx dy tk i with
    | false =>
      rw [h] at ih
      rw [if_pos (by decide), nI_1]
      simpa using ih
    | true =>
      rw [h] at ih
      rw [if_neg (by decide), nI_1, nI_shl1 i (by omega), nI_or]
      simpa using ih
theorem metBy_cls {f : Nat → Int32} {T : Nat} {tu x y dx dy tk : Int32} (hf : gScn f T) (hT : T ≤ 10) (hp : pt x y) (ha : arm dx dy) (hk : Rg tk 0 60) : F_X2_metBy (nI T) tu f x y dx dy tk = some (nI (mset f tu T x y dx dy tk)) := by
  unfold F_X2_metBy
  exact metBy_loop hf hT hp ha hk _ T 0 gN0 (by omega) (by have := gN0_big; omega)
theorem meetsAt_loop {g : Nat → Int32} {T : Nat} (laws : Nat → Int32) {x y dx dy tk : Int32} (hT : T ≤ 10) (kk : Int32 → Int32 → Option Int32) : ∀ (d i fu : Nat), i + d = T → d < fu →
    FL_X9_meetsAt_6 (nI T) g laws x y dx dy tk kk fu (nI (bset (met g (laws 1) x y dx dy tk) i)) (nI i) = kk (nI (bset (met g (laws 1) x y dx dy tk) T)) (nI T)
  | 0, i, fu + 1, hi, _ => by
    have e : i = T := by omega
    subst e
    unfold FL_X9_meetsAt_6
    rw [if_pos (nI_le (Nat.le_refl _) (by omega))]
  | d + 1, i, fu + 1, hi, hfu => by
    unfold FL_X9_meetsAt_6
    have e0 : F_X9_middle g (nI i) tk 0 = some (mid g tk i 0) := mid_mod g tk (ax := 0) (by omega) (by omega)
    have e1 : F_X9_middle g (nI i) tk 1 = some (mid g tk i 1) := mid_mod g tk (ax := 1) (by omega) (by omega)
    have e2 : (5 * nI i) + 2 = nI (5 * i + 2) := nI5' i 2
    rw [if_neg (nI_ge (by omega) (by omega)), e0, e1]
    simp only [Option.bind_some]
    rw [e2, if_pos (gvp_nI (by omega) (by omega)), nI_clamp (by omega), met_mod g g laws]
    simp only [Option.bind_some]
    have ih := meetsAt_loop (g := g) laws (x := x) (y := y) (dx := dx) (dy := dy) (tk := tk) hT kk d (i + 1) fu (by omega) (by omega)
    rw [bset] at ih
    cases h : met g (laws 1) x y dx dy tk i with
    | false =>
      rw [h] at ih
      rw [if_pos (by decide), nI_1, nI_or0]
      simpa using ih
    | true =>
      rw [h] at ih
      rw [if_neg (by decide), nI_1, nI_shl1 i (by omega), nI_or]
      simpa using ih
theorem meetsAt_mod {g : Nat → Int32} {T : Nat} (laws : Nat → Int32) {x y dx dy tk : Int32} (hT : T ≤ 10) : F_X9_meetsAt (nI T) g laws x y dx dy tk = some (nI (mset g (laws 1) T x y dx dy tk)) := by
  unfold F_X9_meetsAt
  exact meetsAt_loop laws hT _ T 0 gN0 (by omega) (by have := gN0_big; omega)
/-- the lesser key of a set, the first of like ones -/
def amin (lt : Nat → Nat → Bool) (s : Nat) : Nat → Option Nat
  | 0 => none
  | n + 1 => if s.testBit n then (match amin lt s n with
    | none => some n
    | some k => if lt n k then some n else some k) else amin lt s n
theorem amin_lt {lt : Nat → Nat → Bool} {s : Nat} : ∀ {n k : Nat}, amin lt s n = some k → k < n ∧ s.testBit k = true
  | 0, k, h => by cases h
  | n + 1, k, h => by
    unfold amin at h
    by_cases hb : s.testBit n = true
    · rw [if_pos hb] at h
      cases ha : amin lt s n with
      | none =>
        rw [ha] at h
        cases h
        exact ⟨by omega, hb⟩
      | some j =>
        rw [ha] at h
        have := amin_lt ha
        by_cases hl : lt n j = true
        · simp only [hl, if_true] at h
          cases h
          exact ⟨by omega, hb⟩
        · simp only [hl] at h
          cases h
          exact ⟨by omega, this.2⟩
    · rw [if_neg hb] at h
      have := amin_lt h
      exact ⟨by omega, this.2⟩
theorem amin_none {lt : Nat → Nat → Bool} {s : Nat} : ∀ {n : Nat}, (∀ j, j < n → s.testBit j = false) → amin lt s n = none
  | 0, _ => rfl
  | n + 1, h => by
    unfold amin
    rw [h n (by omega)]
    exact amin_none (fun j hj => h j (by omega))
theorem amin_congr {lt lt' : Nat → Nat → Bool} {s : Nat} : ∀ {n : Nat}, (∀ a b, a < n → b < n → lt a b = lt' a b) → amin lt s n = amin lt' s n
  | 0, _ => rfl
  | n + 1, h => by
    unfold amin
    rw [amin_congr (fun a b ha hb => h a b (by omega) (by omega))]
    cases ha : amin lt' s n with
    | none => rfl
    | some k =>
      have := (amin_lt ha).1
      simp only [h n k (by omega) (by omega)]
def key (f : Nat → Int32) (dx dy tk : Int32) (t : Nat) : Int32 := mid f tk t 0 * dx + mid f tk t 1 * dy
def klt (f : Nat → Int32) (dx dy tk : Int32) (a b : Nat) : Bool := decide (key f dx dy tk a < key f dx dy tk b)
/-- what is meant of a set that is met -/
def nar (f : Nat → Int32) (fo : Int32) (T s : Nat) (dx dy tk : Int32) : Nat := if fo = 0 then s else match amin (klt f dx dy tk) s T with
  | none => s
  | some k => 2 ^ k
theorem nar_lt {f : Nat → Int32} {fo : Int32} {T s : Nat} {dx dy tk : Int32} (h : s < 2 ^ T) : nar f fo T s dx dy tk < 2 ^ T := by
  unfold nar
  by_cases h0 : fo = 0
  · rw [if_pos h0]
    exact h
  · rw [if_neg h0]
    cases ha : amin (klt f dx dy tk) s T with
    | none => exact h
    | some k => exact Nat.pow_lt_pow_right (by decide) (amin_lt ha).1
theorem key_rg {f : Nat → Int32} {T t : Nat} {dx dy tk : Int32} (hf : gScn f T) (ht : t < T) (ha : arm dx dy) (hk : Rg tk 0 60) : Rg (key f dx dy tk t) (-3600) 3600 ∧ (key f dx dy tk t).toInt = (mid f tk t 0).toInt * dx.toInt + (mid f tk t 1).toInt * dy.toInt := by
  obtain ⟨m0, -⟩ := mid_rg (ax := 0) hf ht (by omega) hk
  obtain ⟨m1, -⟩ := mid_rg (ax := 1) hf ht (by omega) hk
  obtain ⟨e1, q1⟩ := Rg.mul (m0.wide (c := -200) (d := 200) (by omega) (by omega)) ha.1 (by omega)
  obtain ⟨e2, q2⟩ := Rg.mul (m1.wide (c := -200) (d := 200) (by omega) (by omega)) ha.2 (by omega)
  obtain ⟨e3, q3⟩ := Rg.add q1 q2 (by omega) (by omega)
  unfold key
  exact ⟨q3.wide (by omega) (by omega), by rw [e3, e1, e2]⟩
/-- the model's e: farther by what the point adds to all -/
theorem e_key {f : Nat → Int32} {T t : Nat} {x y dx dy tk : Int32} (hf : gScn f T) (ht : t < T) (hp : pt x y) (ha : arm dx dy) (hk : Rg tk 0 60) : (((mid f tk t 0 - x) * dx) + ((mid f tk t 1 - y) * dy)).toInt = (key f dx dy tk t).toInt - (x.toInt * dx.toInt + y.toInt * dy.toInt) := by
  obtain ⟨-, ek⟩ := key_rg hf ht ha hk
  obtain ⟨m0, -⟩ := mid_rg (ax := 0) hf ht (by omega) hk
  obtain ⟨m1, -⟩ := mid_rg (ax := 1) hf ht (by omega) hk
  obtain ⟨e1, q1⟩ := Rg.sub m0 hp.1 (by omega) (by omega)
  obtain ⟨e2, q2⟩ := Rg.sub m1 hp.2 (by omega) (by omega)
  obtain ⟨e3, q3⟩ := Rg.mul (q1.wide (c := -200) (d := 200) (by omega) (by omega)) ha.1 (by omega)
  obtain ⟨e4, q4⟩ := Rg.mul (q2.wide (c := -200) (d := 200) (by omega) (by omega)) ha.2 (by omega)
  obtain ⟨e5, q5⟩ := Rg.add q3 q4 (by omega) (by omega)
  rw [e5, e3, e4, e1, e2, ek, Int.sub_mul, Int.sub_mul]
  omega
theorem ahead_loop {g : Nat → Int32} {T s : Nat} {x y dx dy tk : Int32} (hf : gScn g T) (hT : T ≤ 10) (hs : s < 1024) (hp : pt x y) (ha : arm dx dy) (hk : Rg tk 0 60) (kk : Int32 → Int32 → Int32 → Option Int32) (r : Option Int32)
    (h0 : amin (klt g dx dy tk) s T = none → ∀ l, kk (-4) l (nI T) = r) (h1 : ∀ k, amin (klt g dx dy tk) s T = some k → ∀ l, kk (nI k) l (nI T) = r) : ∀ (d i fu : Nat) (a l : Int32), i + d = T → d < fu →
    ((amin (klt g dx dy tk) s i = none ∧ a = -4) ∨ ∃ k, amin (klt g dx dy tk) s i = some k ∧ a = nI k ∧ l = (((mid g tk k 0 - x) * dx) + ((mid g tk k 1 - y) * dy))) →
    FL_X9_ahead_10 (nI T) g (nI s) x y dx dy tk kk fu a l (nI i) = r
  | 0, i, fu + 1, a, l, hi, _, hst => by
    have e : i = T := by omega
    subst e
    unfold FL_X9_ahead_10
    rw [if_pos (nI_le (Nat.le_refl _) (by omega))]
    rcases hst with ⟨h, rfl⟩ | ⟨k, h, rfl, -⟩
    · exact h0 h l
    · exact h1 k h l
  | d + 1, i, fu + 1, a, l, hi, hfu, hst => by
    unfold FL_X9_ahead_10
    have e0 : F_X9_middle g (nI i) tk 0 = some (mid g tk i 0) := mid_mod g tk (ax := 0) (by omega) (by omega)
    have e1 : F_X9_middle g (nI i) tk 1 = some (mid g tk i 1) := mid_mod g tk (ax := 1) (by omega) (by omega)
    rw [if_neg (nI_ge (by omega) (by omega)), e0, e1]
    simp only [Option.bind_some]
    have ih := ahead_loop hf hT hs hp ha hk kk r h0 h1 d (i + 1) fu
    by_cases hb : s.testBit i = true
    · rw [if_pos ((nI_bit hs (by omega)).mpr hb), nI_1]
      rcases hst with ⟨h, rfl⟩ | ⟨k, h, rfl, rfl⟩
      · rw [if_pos (by decide)]
        refine ih _ _ (by omega) (by omega) (Or.inr ⟨i, ?_, rfl, rfl⟩)
        unfold amin
        rw [if_pos hb, h]
      · have hki := (amin_lt h).1
        rw [if_neg (nI_neg k (by omega))]
        have hcmp : ((((mid g tk k 0 - x) * dx) + ((mid g tk k 1 - y) * dy)) ≤ (((mid g tk i 0 - x) * dx) + ((mid g tk i 1 - y) * dy))) ↔ ¬ key g dx dy tk i < key g dx dy tk k := by
          rw [gI_le, gI_lt, e_key hf (by omega) hp ha hk, e_key hf (by omega) hp ha hk]
          omega
        by_cases hl : key g dx dy tk i < key g dx dy tk k
        · rw [if_neg (by rw [hcmp]; exact fun z => z hl)]
          refine ih _ _ (by omega) (by omega) (Or.inr ⟨i, ?_, rfl, rfl⟩)
          unfold amin
          rw [if_pos hb, h]
          simp [klt, hl]
        · rw [if_pos (hcmp.mpr hl)]
          refine ih _ _ (by omega) (by omega) (Or.inr ⟨k, ?_, rfl, rfl⟩)
          unfold amin
          rw [if_pos hb, h]
          simp [klt, hl]
    · rw [if_neg (by rw [nI_bit hs (by omega)]; exact hb), nI_1]
      refine ih _ _ (by omega) (by omega) ?_
      have e : amin (klt g dx dy tk) s (i + 1) = amin (klt g dx dy tk) s i := by
        rw [amin, if_neg hb]
      rw [e]
      exact hst
theorem ahead_mod {g : Nat → Int32} {T s : Nat} (laws : Nat → Int32) {x y dx dy tk : Int32} (hf : gScn g T) (hT : T ≤ 10) (hs : s < 1024) (hp : pt x y) (ha : arm dx dy) (hk : Rg tk 0 60) : F_X9_ahead (nI T) g laws (nI s) x y dx dy tk = some (nI (nar g (laws 0) T s dx dy tk)) := by
  unfold F_X9_ahead
  refine ahead_loop hf hT hs hp ha hk _ _ ?_ ?_ T 0 gN0 (-4) 0 (by omega) (by have := gN0_big; omega) (Or.inl ⟨rfl, rfl⟩)
  · intro h l
    unfold nar
    by_cases h0 : laws 0 = 0
    · rw [if_pos h0, if_pos h0]
    · rw [if_neg h0, if_neg h0, h, if_neg (by decide)]
  · intro k h l
    unfold nar
    have hk := (amin_lt h).1
    by_cases h0 : laws 0 = 0
    · rw [if_pos h0, if_pos h0]
    · rw [if_neg h0, if_neg h0, h, if_pos (nI_pos' (by omega)), nI_shl1 k (by omega)]
/-- the lowest bit -/
def low (s : Nat) : Nat := (List.range 11).findIdx (fun i => s.testBit i)
theorem low_spec : ∀ s : Nat, s < 1024 → s ≠ 0 → s.testBit (low s) = true ∧ ∀ j, j < low s → s.testBit j = false := by
  have key : ∀ s : Fin 1024, s.val ≠ 0 → s.val.testBit (low s.val) = true ∧ ∀ j, j < low s.val → s.val.testBit j = false := by decide +kernel
  exact fun s hs h => key ⟨s, hs⟩ h
theorem ntz_low : ∀ s : Nat, s < 1024 → s ≠ 0 → F_ntz (nI s) = some (nI (low s)) := by
  have key : ∀ s : Fin 1024, s.val ≠ 0 → F_ntz (nI s.val) = some (nI (low s.val)) := by decide +kernel
  exact fun s hs h => key ⟨s, hs⟩ h
theorem isAhead_cls {f : Nat → Int32} {T a b : Nat} {dx dy tk : Int32} (hT : T ≤ 10) (ha : a < T) (hb : b < T) : F_X2_isAhead f (nI a) (nI b) dx dy tk = some (gB (klt f dx dy tk a b || (decide (key f dx dy tk a = key f dx dy tk b) && decide (a < b)))) := by
  unfold F_X2_isAhead
  have m : ∀ (t ax : Nat), t < T → ax < 2 → F_X2_middle f (nI t) (nI ax) tk = some (mid f tk t ax) := fun t ax h1 h2 => mid_cls f tk (by omega) h2
  rw [show F_X2_middle f (nI a) 0 tk = _ from m a 0 ha (by omega), show F_X2_middle f (nI a) 1 tk = _ from m a 1 ha (by omega), show F_X2_middle f (nI b) 0 tk = _ from m b 0 hb (by omega), show F_X2_middle f (nI b) 1 tk = _ from m b 1 hb (by omega)]
  simp only [Option.bind_some]
  unfold klt
  show (if key f dx dy tk a < key f dx dy tk b then some 1 else if key f dx dy tk a = key f dx dy tk b then if nI b ≤ nI a then some 0 else some 1 else some 0) = _
  by_cases h1 : key f dx dy tk a < key f dx dy tk b
  · simp [h1, gB]
  · by_cases h2 : key f dx dy tk a = key f dx dy tk b
    · by_cases h3 : a < b
      · rw [if_neg h1, if_pos h2, if_neg (nI_ge h3 (by omega))]
        simp [h2, h3, gB]
      · rw [if_neg h1, if_pos h2, if_pos (nI_le (by omega) (by omega))]
        simp [h1, h2, h3, gB]
    · rw [if_neg h1, if_neg h2]
      simp [h1, h2, gB]
theorem narrowed_loop {f : Nat → Int32} {T s : Nat} {dx dy tk : Int32} (hT : T ≤ 10) (hs : s < 1024) (kk : Int32 → Int32 → Option Int32) (r : Option Int32)
    (h1 : ∀ k, amin (klt f dx dy tk) s T = some k → kk (nI k) (nI T) = r) : ∀ (d i fu k : Nat), i + d = T → d < fu → amin (klt f dx dy tk) s i = some k →
    FL_X2_narrowed_25 (nI T) f (nI s) dx dy tk kk fu (nI k) (nI i) = r
  | 0, i, fu + 1, k, hi, _, h => by
    have e : i = T := by omega
    subst e
    unfold FL_X2_narrowed_25 F_X4_size
    simp only [Option.bind_some]
    rw [if_pos (nI_le (Nat.le_refl _) (by omega))]
    exact h1 k h
  | d + 1, i, fu + 1, k, hi, hfu, h => by
    have hki := (amin_lt h).1
    unfold FL_X2_narrowed_25 F_X4_size
    simp only [Option.bind_some]
    rw [if_neg (nI_ge (by omega) (by omega))]
    have ih := narrowed_loop hT hs kk r h1 d (i + 1) fu
    by_cases hb : s.testBit i = true
    · rw [if_pos ((nI_bit hs (by omega)).mpr hb), isAhead_cls hT (by omega) (by omega)]
      simp only [Option.bind_some]
      rw [nI_1]
      have e2 : decide (i < k) = false := by simp; omega
      rw [e2, Bool.and_false, Bool.or_false]
      cases hl : klt f dx dy tk i k with
      | false =>
        rw [if_pos (by decide)]
        refine ih k (by omega) (by omega) ?_
        rw [amin, if_pos hb, h]
        simp [hl]
      | true =>
        rw [if_neg (by decide)]
        refine ih i (by omega) (by omega) ?_
        rw [amin, if_pos hb, h]
        simp [hl]
    · rw [if_neg (by rw [nI_bit hs (by omega)]; exact hb), nI_1]
      refine ih k (by omega) (by omega) ?_
      rw [amin, if_neg hb]
      exact h
theorem narrowed_nz {f : Nat → Int32} {T s : Nat} {dx dy tk : Int32} (hT : T ≤ 10) (hs : s < 2 ^ T) (hz : s ≠ 0) (fu : Nat) (hfu : 10 < fu) : FL_X2_narrowed_25 (nI T) f (nI s) dx dy tk (fun l5_25 _ => some (1 <<< (l5_25 &&& 31))) fu (nI (low s)) (nI (low s + 1)) = some (nI (match amin (klt f dx dy tk) s T with
    | none => s
    | some k => 2 ^ k)) := by
  have hs2 : s < 1024 := Nat.lt_of_lt_of_le hs (Nat.pow_le_pow_right (by decide) hT)
  obtain ⟨l1, l2⟩ := low_spec s hs2 hz
  have hl : low s < T := by
    refine Nat.lt_of_not_le (fun h => ?_)
    have := Nat.testBit_lt_two_pow (x := s) (i := low s) (Nat.lt_of_lt_of_le hs (Nat.pow_le_pow_right (by decide) h))
    rw [this] at l1
    cases l1
  have ha : amin (klt f dx dy tk) s (low s + 1) = some (low s) := by
    rw [amin, if_pos l1, amin_none l2]
  refine narrowed_loop hT hs2 _ _ ?_ (T - (low s + 1)) (low s + 1) fu (low s) (by omega) (by omega) ha
  intro k hk
  have := (amin_lt hk).1
  rw [hk, nI_shl1 k (by omega)]
theorem nrw_0 {f : Nat → Int32} {T s : Nat} {fo dx dy tk : Int32} (h0 : fo = 0) : F_X2_narrowed (nI T) fo f (nI s) dx dy tk = some (nI s) := by
  unfold F_X2_narrowed
  rw [if_pos h0]
theorem nrw_1 {f : Nat → Int32} {T : Nat} {fo dx dy tk b : Int32} (h0 : ¬ fo = 0) (hb : b = 0) : F_X2_narrowed (nI T) fo f b dx dy tk = some b := by
  unfold F_X2_narrowed
  rw [if_neg h0, if_pos hb]
theorem nrw_2 {f : Nat → Int32} {T s : Nat} {fo dx dy tk : Int32} (h0 : ¬ fo = 0) (hs : s < 1024) (hz : s ≠ 0) : F_X2_narrowed (nI T) fo f (nI s) dx dy tk = FL_X2_narrowed_25 (nI T) f (nI s) dx dy tk (fun l5_25 _ => some (1 <<< (l5_25 &&& 31))) gN0 (nI (low s)) (nI (low s) + 1) := by
  unfold F_X2_narrowed
  rw [if_neg h0, if_neg (nI_ne0 (by omega) (by omega)), ntz_low s hs hz]
  rfl
theorem nar_0 {f : Nat → Int32} {T s : Nat} {fo dx dy tk : Int32} (h0 : fo = 0) : nar f fo T s dx dy tk = s := by
  unfold nar
  rw [if_pos h0]
theorem nar_1 {f : Nat → Int32} {T s : Nat} {fo dx dy tk : Int32} (h0 : ¬ fo = 0) : nar f fo T s dx dy tk = match amin (klt f dx dy tk) s T with
    | none => s
    | some k => 2 ^ k := by
  unfold nar
  rw [if_neg h0]
theorem narrowed_cls {f : Nat → Int32} {T s : Nat} {fo dx dy tk : Int32} (hT : T ≤ 10) (hs : s < 2 ^ T) : F_X2_narrowed (nI T) fo f (nI s) dx dy tk = some (nI (nar f fo T s dx dy tk)) := by
  have hs2 : s < 1024 := Nat.lt_of_lt_of_le hs (Nat.pow_le_pow_right (by decide) hT)
  by_cases h0 : fo = 0
  · rw [nrw_0 h0, nar_0 h0]
  · rw [nar_1 h0]
    by_cases hz : s = 0
    · rw [nrw_1 h0 (by rw [hz]; rfl), amin_none (fun j _ => by rw [hz]; exact Nat.zero_testBit j)]
    · rw [nrw_2 h0 hs2 hz, nI_1]
      exact narrowed_nz hT hs hz gN0 (Nat.lt_trans (by decide) gN0_big)
/-- what an arm means -/
def mean (f : Nat → Int32) (fo tu : Int32) (T : Nat) (x y dx dy tk : Int32) : Nat := nar f fo T (mset f tu T x y dx dy tk) dx dy tk
theorem mean_lt (f : Nat → Int32) (fo tu : Int32) (T : Nat) (x y dx dy tk : Int32) : mean f fo tu T x y dx dy tk < 2 ^ T := nar_lt (mset_lt _ _ _ _ _ _ _ _)
theorem meansAt_mod {g : Nat → Int32} {T : Nat} (laws : Nat → Int32) {x y dx dy tk : Int32} (hf : gScn g T) (hT : T ≤ 10) (hp : pt x y) (ha : arm dx dy) (hk : Rg tk 0 60) : F_X9_meansAt (nI T) g laws x y dx dy tk = some (nI (mean g (laws 0) (laws 1) T x y dx dy tk)) := by
  unfold F_X9_meansAt mean
  rw [meetsAt_mod laws hT]
  simp only [Option.bind_some]
  rw [ahead_mod laws hf hT (Nat.lt_of_lt_of_le (mset_lt _ _ _ _ _ _ _ _) (Nat.pow_le_pow_right (by decide) hT)) hp ha hk]
  rfl
