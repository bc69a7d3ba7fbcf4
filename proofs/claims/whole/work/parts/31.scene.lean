/-! What an arm meets and means: both sides' functions are the same sets. -/
theorem gvp_nI {k n : Nat} (h : k < n) (hn : n < 2 ^ 31) : gvp (nI k) n := vp_in_nI h hn
theorem nI5 (t c : Nat) : (nI t * 5) + nI c = nI (5 * t + c) := by
  show (nI t * nI 5) + nI c = _
  rw [pk_mul, nI_add, Nat.mul_comm]
theorem nI5' (t c : Nat) : (5 * nI t) + nI c = nI (5 * t + c) := by
  show (nI 5 * nI t) + nI c = _
  rw [pk_mul, nI_add]
def gScn (f : Nat → Int32) (T : Nat) : Prop := ∀ t, t < T → Rg (f (5 * t)) 0 20 ∧ Rg (f (5 * t + 1)) 0 20 ∧ Rg (f (5 * t + 2)) 0 5 ∧ Rg (f (5 * t + 3)) (-3) 3 ∧ Rg (f (5 * t + 4)) (-3) 3
def mid (f : Nat → Int32) (tk : Int32) (t ax : Nat) : Int32 := f (5 * t + ax) + tk * f (5 * t + 3 + ax)
theorem nI_neg (n : Nat) (h : n < 2 ^ 31) : ¬ nI n < 0 := nI_pos h
theorem mid_cls (f : Nat → Int32) (tk : Int32) {t ax : Nat} (ht : t < 10) (hx : ax < 2) : F_X2_middle f (nI t) (nI ax) tk = some (mid f tk t ax) := by
  unfold F_X2_middle mid
  have e1 : (nI t * 5) + nI ax = nI (5 * t + ax) := nI5 t ax
  have e2 : ((nI t * 5) + 3) + nI ax = nI (5 * t + 3 + ax) := by
    show ((nI t * 5) + nI 3) + nI ax = _
    rw [nI5, nI_add]
  rw [if_neg (nI_neg t (by omega)), if_neg (show ¬ (10 : Int32) ≤ nI t from nI_ge (b := 10) (by omega) (by omega)), if_neg (nI_neg ax (by omega)), if_pos (show nI ax ≤ (1 : Int32) from nI_le (b := 1) (by omega) (by omega)), e1, e2, if_pos (gvp_nI (by omega) (by omega)), if_pos (gvp_nI (by omega) (by omega)), nI_clamp (by omega), nI_clamp (by omega)]
theorem mid_mod (g : Nat → Int32) (tk : Int32) {t ax : Nat} (ht : t < 10) (hx : ax < 2) : F_X9_middle g (nI t) tk (nI ax) = some (mid g tk t ax) := by
  unfold F_X9_middle mid
  have e1 : (5 * nI t) + nI ax = nI (5 * t + ax) := nI5' t ax
  have e2 : ((5 * nI t) + 3) + nI ax = nI (5 * t + 3 + ax) := by
    show ((5 * nI t) + nI 3) + nI ax = _
    rw [nI5', nI_add]
  rw [e1, e2, if_pos (gvp_nI (by omega) (by omega)), if_pos (gvp_nI (by omega) (by omega)), nI_clamp (by omega), nI_clamp (by omega)]
/-- where a middle may be at a tick -/
theorem mid_rg {f : Nat → Int32} {T t ax : Nat} {tk : Int32} (hf : gScn f T) (ht : t < T) (hx : ax < 2) (hk : Rg tk 0 60) : Rg (mid f tk t ax) (-180) 200 ∧ (mid f tk t ax).toInt = (f (5 * t + ax)).toInt + tk.toInt * (f (5 * t + 3 + ax)).toInt := by
  obtain ⟨h0, h1, h2, h3, h4⟩ := hf t ht
  unfold mid
  have ha : Rg (f (5 * t + ax)) 0 20 := by
    rcases (show ax = 0 ∨ ax = 1 by omega) with rfl | rfl
    · exact h0
    · exact h1
  have hb : Rg (f (5 * t + 3 + ax)) (-3) 3 := by
    rcases (show ax = 0 ∨ ax = 1 by omega) with rfl | rfl
    · exact h3
    · exact h4
  obtain ⟨e1, r1⟩ := Rg.mul (hk.wide (c := -60) (d := 60) (by omega) (by omega)) hb (by omega)
  obtain ⟨e2, r2⟩ := Rg.add ha r1 (by omega) (by omega)
  exact ⟨r2.wide (by omega) (by omega), by rw [e2, e1]⟩
def pt (x y : Int32) : Prop := Rg x 0 20 ∧ Rg y 0 20
def arm (dx dy : Int32) : Prop := Rg dx (-9) 9 ∧ Rg dy (-9) 9
/-- whether an arm meets a thing, as the model's numbers have it -/
def met (f : Nat → Int32) (tu : Int32) (x y dx dy tk : Int32) (t : Nat) : Bool :=
  !decide ((((mid f tk t 0 - x) * (mid f tk t 0 - x)) + ((mid f tk t 1 - y) * (mid f tk t 1 - y))) ≤ (f (5 * t + 2) * f (5 * t + 2))) &&
  (!decide ((((mid f tk t 0 - x) * dx) + ((mid f tk t 1 - y) * dy)) ≤ 0) &&
  (decide (((((mid f tk t 0 - x) * dy) - ((mid f tk t 1 - y) * dx)) * (((mid f tk t 0 - x) * dy) - ((mid f tk t 1 - y) * dx))) < ((f (5 * t + 2) * f (5 * t + 2)) * ((dx * dx) + (dy * dy)))) ||
  (decide (tu = 1) && decide (((((mid f tk t 0 - x) * dy) - ((mid f tk t 1 - y) * dx)) * (((mid f tk t 0 - x) * dy) - ((mid f tk t 1 - y) * dx))) = ((f (5 * t + 2) * f (5 * t + 2)) * ((dx * dx) + (dy * dy)))))))
def gB (b : Bool) : Int32 := if b then 1 else 0
theorem met_mod (g f : Nat → Int32) (laws : Nat → Int32) (x y dx dy tk : Int32) (t : Nat) : F_X9_isMet laws x y dx dy (mid f tk t 0) (mid f tk t 1) (f (5 * t + 2)) = some (gB (met f (laws 1) x y dx dy tk t)) := by
  unfold F_X9_isMet met
  generalize (((mid f tk t 0 - x) * (mid f tk t 0 - x)) + ((mid f tk t 1 - y) * (mid f tk t 1 - y))) = A
  generalize (f (5 * t + 2) * f (5 * t + 2)) = B
  generalize (((mid f tk t 0 - x) * dx) + ((mid f tk t 1 - y) * dy)) = C
  generalize ((((mid f tk t 0 - x) * dy) - ((mid f tk t 1 - y) * dx)) * (((mid f tk t 0 - x) * dy) - ((mid f tk t 1 - y) * dx))) = F
  generalize (B * ((dx * dx) + (dy * dy))) = G
  by_cases h1 : A ≤ B
  · simp [h1, gB]
  · by_cases h2 : C ≤ 0
    · simp [h1, h2, gB]
    · by_cases h3 : F < G
      · simp [h1, h2, h3, gB]
      · by_cases h4 : laws 1 = 1
        · by_cases h5 : F = G
          · simp [h1, h2, h3, h4, h5, gB]
          · simp [h1, h2, h3, h4, h5, gB]
        · simp [h1, h2, h3, h4, gB]
theorem sq_rg {x : Int32} {A : Int} (h : Rg x (-A) A) (hA : A * A < 2147483648) : (x * x).toInt = x.toInt * x.toInt ∧ Rg (x * x) 0 (A * A) := by
  obtain ⟨e, r⟩ := Rg.mul h h hA
  refine ⟨e, ?_, r.2⟩
  rw [e]
  rcases Int.le_total 0 x.toInt with h1 | h1
  · exact Int.mul_nonneg h1 h1
  · exact Int.mul_nonneg_of_nonpos_of_nonpos h1 h1
theorem get_cls {f : Nat → Int32} {T t c : Nat} (hT : T ≤ 10) (ht : t < T) (hc : c < 5) : F_X4_get 5 (nI T) 50 f (nI t) (nI c) = some (f (5 * t + c)) := by
  unfold F_X4_get
  rw [if_neg (nI_neg t (by omega)), if_neg (nI_ge ht (by omega)), if_neg (nI_neg c (by omega)), if_neg (show ¬ (5 : Int32) ≤ nI c from nI_ge (b := 5) (by omega) (by omega)), nI5, if_pos (gvp_nI (by omega) (by omega)), nI_clamp (by omega)]
theorem met_cls {f : Nat → Int32} {T t : Nat} {tu x y dx dy tk : Int32} (hf : gScn f T) (hT : T ≤ 10) (ht : t < T) (hp : pt x y) (ha : arm dx dy) (hk : Rg tk 0 60) : F_X2_isMet (nI T) tu f (nI t) x y dx dy tk = some (gB (met f tu x y dx dy tk t)) := by
  unfold F_X2_isMet
  rw [show (0 : Int32) = nI 0 from rfl, show (1 : Int32) = nI 1 from rfl, show (2 : Int32) = nI 2 from rfl, mid_cls f tk (by omega) (by omega), mid_cls f tk (by omega) (by omega)]
  simp only [Option.bind_some]
  rw [get_cls hT ht (by omega)]
  simp only [Option.bind_some]
  unfold met
  rw [show nI 0 = (0 : Int32) from rfl, show nI 1 = (1 : Int32) from rfl]
  obtain ⟨m0, -⟩ := mid_rg (ax := 0) hf ht (by omega) hk
  obtain ⟨m1, -⟩ := mid_rg (ax := 1) hf ht (by omega) hk
  obtain ⟨-, -, hb, -, -⟩ := hf t ht
  generalize mid f tk t 0 = a at m0 ⊢
  generalize mid f tk t 1 = b at m1 ⊢
  generalize f (5 * t + 2) = br at hb ⊢
  obtain ⟨-, ra⟩ := Rg.sub m0 hp.1 (by omega) (by omega)
  obtain ⟨-, rb⟩ := Rg.sub m1 hp.2 (by omega) (by omega)
  generalize a - x = a at ra ⊢
  generalize b - y = b at rb ⊢
  obtain ⟨-, q1⟩ := Rg.mul (ra.wide (c := -200) (d := 200) (by omega) (by omega)) ha.2 (by omega)
  obtain ⟨-, q2⟩ := Rg.mul (rb.wide (c := -200) (d := 200) (by omega) (by omega)) ha.1 (by omega)
  obtain ⟨-, q3⟩ := Rg.sub q1 q2 (by omega) (by omega)
  obtain ⟨-, q4⟩ := sq_rg (q3.wide (c := -3600) (d := 3600) (by omega) (by omega)) (by omega)
  obtain ⟨-, s1⟩ := sq_rg (hb.wide (c := -5) (d := 5) (by omega) (by omega)) (by omega)
  obtain ⟨-, s2⟩ := sq_rg ha.1 (by omega)
  obtain ⟨-, s3⟩ := sq_rg ha.2 (by omega)
  obtain ⟨-, s4⟩ := Rg.add s2 s3 (by omega) (by omega)
  obtain ⟨-, s5⟩ := Rg.mul (s1.wide (c := -25) (d := 25) (by omega) (by omega)) (s4.wide (c := -162) (d := 162) (by omega) (by omega)) (by omega)
  generalize (a * dy - b * dx) * (a * dy - b * dx) = F at q4 ⊢
  generalize br * br * (dx * dx + dy * dy) = G at s5 ⊢
  obtain ⟨e6, -⟩ := Rg.sub q4 s5 (by omega) (by omega)
  have c1 : (F - G < 0) ↔ F < G := by
    rw [gI_lt, gI_lt, e6]
    show _ < (0 : Int) ↔ _
    omega
  have c2 : (F - G = 0) ↔ F = G := by
    rw [gI_eq, gI_eq F G, e6]
    show _ = (0 : Int) ↔ _
    omega
  generalize a * dx + b * dy = C
  generalize a * a + b * b = A
  have c3 : (0 < C) ↔ ¬ C ≤ 0 := by rw [gI_lt, gI_le]; omega
  by_cases h1 : A ≤ br * br
  · by_cases h2 : C ≤ 0
    · simp [c3, h1, h2, gB]
    · simp [c3, h1, h2, gB]
  · by_cases h2 : C ≤ 0
    · simp [c3, h1, h2, gB]
    · by_cases h3 : F < G
      · simp [c1, c2, c3, h1, h2, h3, gB]
      · by_cases h5 : F = G
        · by_cases h4 : tu = 1
          · simp only [c1, c2, c3, h1, h2, h3, h4, h5]; simp [gB]
          · simp only [c1, c2, c3, h1, h2, h3, h4, h5]; simp [gB]
        · by_cases h4 : tu = 1
          · simp only [c1, c2, c3, h1, h2, h3, h4, h5]; simp [gB]
          · simp only [c1, c2, c3, h1, h2, h3, h4, h5]; simp [gB]
