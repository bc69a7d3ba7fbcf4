/-! share, ground. -/
def FR (fx fy fan : Nat → Int32) : Prop := ∀ k, k < 80 → fan k = fx k ∧ fan (80 + k) = fy k ∧ arm (fx k) (fy k)
def cnt (p : Nat → Bool) : Nat → Nat
  | 0 => 0
  | n + 1 => cnt p n + (if p n then 1 else 0)
theorem cnt_le (p : Nat → Bool) : ∀ n, cnt p n ≤ n
  | 0 => Nat.le_refl 0
  | n + 1 => by
    have := cnt_le p n
    rw [cnt]
    split <;> omega
theorem cnt_any (p : Nat → Bool) : ∀ n, decide (0 < cnt p n) = anyF p 0 n := by
  intro n
  apply Bool.eq_iff_iff.mpr
  rw [decide_eq_true_eq, anyF_iff]
  induction n with
  | zero =>
    constructor
    · intro h; simp [cnt] at h
    · rintro ⟨o, -, h, -⟩; omega
  | succ n ih =>
    rw [cnt]
    by_cases hp : p n = true
    · constructor
      · intro _; exact ⟨n, by omega, by omega, hp⟩
      · intro _; simp [hp]
    · rw [if_neg hp, Nat.add_zero, ih]
      constructor
      · rintro ⟨o, h1, h2, h3⟩; exact ⟨o, h1, by omega, h3⟩
      · rintro ⟨o, h1, h2, h3⟩
        refine ⟨o, h1, ?_, h3⟩
        rcases Nat.lt_or_ge o n with h4 | h4
        · omega
        · have : o = n := by omega
          rw [this] at h3
          exact absurd h3 hp
/-- which arms of the fan mean thing j alone from a point -/
def fanB (f : Nat → Int32) (fo tu : Int32) (T : Nat) (fx fy : Nat → Int32) (x y : Int32) (j k : Nat) : Bool := justB f fo tu T x y (fx k) (fy k) j
section Share
variable {T P : Nat} {fo tu : Int32} {f pf g xs ys laws fx fy fan : Nat → Int32}
theorem canMean_loop (h : SR T P fo tu f pf g xs ys laws) (hfr : FR fx fy fan) {j : Nat} (hj : j < T) {x y : Int32} (hp : pt x y) (kk : Int32 → Option Int32) : ∀ (d i fu : Nat), i + d = 80 → d < fu →
    FL_X1_canMean_3 fx fy (nI T) fo tu f (nI j) x y kk fu (nI i) = if anyF (fanB f fo tu T fx fy x y j) i d then some 1 else kk (nI 80)
  | 0, i, fu + 1, hi, _ => by
    have e : i = 80 := by omega
    subst e
    unfold FL_X1_canMean_3
    rw [if_pos (by decide)]
    rfl
  | d + 1, i, fu + 1, hi, hfu => by
    have ih := canMean_loop h hfr hj hp kk d (i + 1) fu (by omega) (by omega)
    have ci : (nI i).toNatClampNeg = i := nI_clamp (by omega)
    unfold FL_X1_canMean_3
    simp only [if_neg (show ¬ (80 : Int32) ≤ nI i from nI_ge (b := 80) (by omega) (by omega)), if_pos (show gvp (nI i) 80 from gvp_nI (by omega) (by omega)), ci]
    rw [just_cls h.2.2.1 h.1 hj hp (hfr i (by omega)).2.2]
    simp only [Option.bind_some, gB_if]
    rw [nI_1, ih, anyF]
    show (if fanB f fo tu T fx fy x y j i = true then _ else _) = _
    cases fanB f fo tu T fx fy x y j i <;> simp
theorem canMean_cls (h : SR T P fo tu f pf g xs ys laws) (hfr : FR fx fy fan) {j : Nat} (hj : j < T) {x y : Int32} (hp : pt x y) : F_X1_canMean fx fy (nI T) fo tu f (nI j) x y = some (gB (decide (0 < cnt (fanB f fo tu T fx fy x y j) 80))) := by
  have hg := gN0_big
  unfold F_X1_canMean
  have e := canMean_loop h hfr hj hp (fun _ => some 0) 80 0 gN0 (by omega) (by omega)
  rw [show nI 0 = (0 : Int32) from rfl] at e
  rw [e, cnt_any]
  cases anyF (fanB f fo tu T fx fy x y j) 0 80 <;> rfl
theorem nI_p0 (a : Nat) : nI a + 0 = nI a := nI_add a 0
theorem armsFor_loop (h : SR T P fo tu f pf g xs ys laws) (hfr : FR fx fy fan) {j : Nat} (hj : j < T) {x y : Int32} (hp : pt x y) (kk : Int32 → Int32 → Option Int32) : ∀ (d i fu : Nat), i + d = 80 → d < fu →
    FL_X1_armsFor_6 fx fy (nI T) fo tu f (nI j) x y kk fu (nI (cnt (fanB f fo tu T fx fy x y j) i)) (nI i) = kk (nI (cnt (fanB f fo tu T fx fy x y j) 80)) (nI 80)
  | 0, i, fu + 1, hi, _ => by
    have e : i = 80 := by omega
    subst e
    unfold FL_X1_armsFor_6
    rw [if_pos (by decide)]
  | d + 1, i, fu + 1, hi, hfu => by
    have ih := armsFor_loop h hfr hj hp kk d (i + 1) fu (by omega) (by omega)
    have ci : (nI i).toNatClampNeg = i := nI_clamp (by omega)
    unfold FL_X1_armsFor_6
    simp only [if_neg (show ¬ (80 : Int32) ≤ nI i from nI_ge (b := 80) (by omega) (by omega)), if_pos (show gvp (nI i) 80 from gvp_nI (by omega) (by omega)), ci]
    rw [just_cls h.2.2.1 h.1 hj hp (hfr i (by omega)).2.2]
    simp only [Option.bind_some, gB_if]
    rw [nI_1 i, nI_1, nI_p0]
    rw [cnt] at ih
    have e : fanB f fo tu T fx fy x y j i = justB f fo tu T x y (fx i) (fy i) j := rfl
    rw [e] at ih
    cases hb : justB f fo tu T x y (fx i) (fy i) j
    · rw [hb] at ih
      simpa using ih
    · rw [hb] at ih
      simpa using ih
theorem armsFor_cls (h : SR T P fo tu f pf g xs ys laws) (hfr : FR fx fy fan) {j : Nat} (hj : j < T) {x y : Int32} (hp : pt x y) : F_X1_armsFor fx fy (nI T) fo tu f (nI j) x y = some (nI (cnt (fanB f fo tu T fx fy x y j) 80)) := by
  have hg := gN0_big
  unfold F_X1_armsFor
  exact armsFor_loop h hfr hj hp (fun l _ => some l) 80 0 gN0 (by omega) (by omega)
theorem aloneBy_loop (h : SR T P fo tu f pf g xs ys laws) (hfr : FR fx fy fan) {j : Nat} (hj : j < T) {x y : Int32} (hp : pt x y) (kk : Int32 → Int32 → Option Int32) : ∀ (d i fu : Nat), i + d = 80 → d < fu →
    FL_X9_aloneBy_6 (nI T) fan g laws (nI j) x y kk fu (nI (cnt (fanB f fo tu T fx fy x y j) i)) (nI i) = kk (nI (cnt (fanB f fo tu T fx fy x y j) 80)) (nI 80)
  | 0, i, fu + 1, hi, _ => by
    have e : i = 80 := by omega
    subst e
    unfold FL_X9_aloneBy_6
    rw [if_pos (by decide)]
  | d + 1, i, fu + 1, hi, hfu => by
    have ih := aloneBy_loop h hfr hj hp kk d (i + 1) fu (by omega) (by omega)
    have ci : (nI i).toNatClampNeg = i := nI_clamp (by omega)
    have e8 : (80 : Int32) + nI i = nI (80 + i) := nI_add 80 i
    have c8 : (nI (80 + i)).toNatClampNeg = 80 + i := nI_clamp (by omega)
    obtain ⟨f1, f2, f3⟩ := hfr i (by omega)
    unfold FL_X9_aloneBy_6
    simp only [if_neg (show ¬ (80 : Int32) ≤ nI i from nI_ge (b := 80) (by omega) (by omega)), e8, if_pos (show gvp (nI i) 160 from gvp_nI (by omega) (by omega)), if_pos (show gvp (nI (80 + i)) 160 from gvp_nI (by omega) (by omega)), ci, c8, f1, f2]
    rw [h.means hp f3 rg0]
    simp only [Option.bind_some]
    rw [nI_1 i, nI_1, nI_p0]
    rw [cnt] at ih
    have e : fanB f fo tu T fx fy x y j i = decide (mean f fo tu T x y (fx i) (fy i) 0 = 2 ^ j) := rfl
    rw [e] at ih
    by_cases hc : mean f fo tu T x y (fx i) (fy i) 0 = 2 ^ j
    · rw [if_pos ((mean_is h hj).mpr hc)]
      simpa [hc] using ih
    · rw [if_neg (by rw [mean_is h hj]; exact hc)]
      simpa [hc] using ih
theorem aloneBy_mod (h : SR T P fo tu f pf g xs ys laws) (hfr : FR fx fy fan) {j : Nat} (hj : j < T) {x y : Int32} (hp : pt x y) : F_X9_aloneBy (nI T) fan g laws (nI j) x y = some (nI (cnt (fanB f fo tu T fx fy x y j) 80)) := by
  have hg := gN0_big
  unfold F_X9_aloneBy
  exact aloneBy_loop h hfr hj hp (fun l _ => some l) 80 0 gN0 (by omega) (by omega)
end Share
theorem share8_mono (kk : Int32 → Int32 → Int32 → Option Int32) (m : Nat) : ∀ (n : Nat) (a b d r : Int32), FL_X8_share_62 kk n a b d = some r → FL_X8_share_62 kk (n + m) a b d = some r
  | 0, a, b, d, r, h => by cases h
  | n + 1, a, b, d, r, h => by
    have ih := share8_mono kk m n
    rw [show n + 1 + m = (n + m) + 1 by omega]
    unfold FL_X8_share_62 at h ⊢
    split at h
    · rename_i h1; rw [if_pos h1]; exact h
    · rename_i h1; rw [if_neg h1]
      split at h
      · rename_i h2; rw [if_pos h2]
        split at h
        · rename_i h3; rw [if_pos h3, if_pos h2]
          split at h
          · rename_i h4; rw [if_pos h4, if_pos h2, if_pos h2]
            exact ih _ _ _ _ h
          · rename_i h4; rw [if_neg h4]
            exact ih _ _ _ _ h
        · rename_i h3; rw [if_neg h3]
          exact ih _ _ _ _ h
      · cases h
theorem share9_mono (kk : Int32 → Int32 → Option Int32) (m : Nat) : ∀ (n : Nat) (a b r : Int32), FL_X9_share_46 kk n a b = some r → FL_X9_share_46 kk (n + m) a b = some r
  | 0, a, b, r, h => by cases h
  | n + 1, a, b, r, h => by
    have ih := share9_mono kk m n
    rw [show n + 1 + m = (n + m) + 1 by omega]
    unfold FL_X9_share_46 at h ⊢
    split at h
    · rename_i h1; rw [if_pos h1]; exact h
    · rename_i h1; rw [if_neg h1]
      split at h
      · rename_i h2; rw [if_pos h2]
        exact ih _ _ _ h
      · cases h
theorem share8_0 : ∀ a : Fin 81, FL_X8_share_62 (fun l5 _ _ => some l5) 90 (nI a.val) 80 80 = some (nI (a.val / Nat.gcd a.val 80)) := by decide +kernel
theorem share8_1 : ∀ a : Fin 81, FL_X8_share_62 (fun _ l6 _ => some l6) 90 (nI a.val) 80 80 = some (nI (80 / Nat.gcd a.val 80)) := by decide +kernel
theorem share9_0 : ∀ a : Fin 81, FL_X9_share_46 (fun l6 _ => if ¬ l6 = 0 then (some (nI a.val / l6)) else none) 30 (nI a.val) 80 = some (nI (a.val / Nat.gcd a.val 80)) := by decide +kernel
theorem share9_1 : ∀ a : Fin 81, FL_X9_share_46 (fun l6 _ => if ¬ l6 = 0 then (some (80 / l6)) else none) 30 (nI a.val) 80 = some (nI (80 / Nat.gcd a.val 80)) := by decide +kernel
section Share2
variable {T P : Nat} {fo tu : Int32} {f pf g xs ys laws fx fy fan : Nat → Int32}
theorem eq_share (h : SR T P fo tu f pf g xs ys laws) (hfr : FR fx fy fan) (th x y pa : Int32) : ∃ r, F_X8_share fx fy (nI T) fo tu f th x y pa = some r ∧ F_X9_share (nI T) fan g laws th x y pa = some r := by
  have hT := h.1
  have hg := gN0_big
  unfold F_X8_share F_X9_share
  rw [has_cls (by omega), isThing_mod (by omega), isPoint_cls, isPoint_mod, in_mod32]
  simp only [Option.bind_some, gB_if]
  cases h1 : inb th.toInt 0 (T - 1)
  · exact ⟨_, rfl, rfl⟩
  · obtain ⟨j, hj, rfl⟩ := inb_nI h1
    cases h2 : ptB x y
    · exact ⟨_, rfl, rfl⟩
    · have c1 : (pa < 0) ↔ pa.toInt < 0 := gI_lt pa 0
      have c2 : (pa ≤ 1) ↔ pa.toInt ≤ 1 := gI_le pa 1
      have hp := ptB_t.mp h2
      simp only [if_true]
      show ∃ r, _ = some r ∧ (if inb pa.toInt 0 1 = true then _ else _) = some r
      cases h4 : inb pa.toInt 0 1
      · refine ⟨-1, ?_, rfl⟩
        rcases inb_f.mp h4 with h5 | h5
        · rw [if_pos (c1.mpr h5)]
        · rw [if_neg (by rw [c1]; omega), if_neg (by rw [c2]; omega)]
      · have h5 := inb_t.mp h4
        obtain ⟨q, hq, rfl⟩ : ∃ q, q < 2 ∧ pa = nI q := inb_nI (n := 2) h4
        rw [if_neg (by rw [c1]; omega), if_pos (by rw [c2]; omega), if_pos rfl, armsFor_cls h hfr hj hp, aloneBy_mod h hfr hj hp]
        simp only [Option.bind_some]
        have hc := cnt_le (fanB f fo tu T fx fy x y j) 80
        generalize cnt (fanB f fo tu T fx fy x y j) 80 = A at hc ⊢
        obtain ⟨m, hm⟩ : ∃ m, gN0 = 90 + m := ⟨gN0 - 90, by omega⟩
        obtain ⟨m2, hm2⟩ : ∃ m, gN0 = 30 + m := ⟨gN0 - 30, by omega⟩
        rcases (show q = 0 ∨ q = 1 by omega) with rfl | rfl
        · refine ⟨nI (A / Nat.gcd A 80), ?_, ?_⟩
          · rw [hm]
            simp only [show nI 0 = (0 : Int32) from rfl, if_true]
            exact share8_mono _ m 90 _ _ _ _ (share8_0 ⟨A, by omega⟩)
          · rw [hm2]
            simp only [show nI 0 = (0 : Int32) from rfl, if_true]
            exact share9_mono _ m2 30 _ _ _ (share9_0 ⟨A, by omega⟩)
        · have n1 : ¬ nI 1 = (0 : Int32) := by decide
          refine ⟨nI (80 / Nat.gcd A 80), ?_, ?_⟩
          · rw [hm]
            simp only [if_neg n1]
            exact share8_mono _ m 90 _ _ _ _ (share8_1 ⟨A, by omega⟩)
          · rw [hm2]
            simp only [if_neg n1]
            exact share9_mono _ m2 30 _ _ _ (share9_1 ⟨A, by omega⟩)
/-- point number k of the ground -/
def gp (k : Nat) : Int32 × Int32 := (nI (k % 21), nI (k / 21))
theorem gp_pt {k : Nat} (h : k < 441) : pt (gp k).1 (gp k).2 := ⟨nI_rg (by omega) (by omega), nI_rg (by omega) (by omega)⟩
theorem gp_rem {k : Nat} (h : k < 441) : grem (nI k) 21 = (gp k).1 := pk_rem (d := 21) (by omega) (by omega) (by omega)
theorem gp_div {k : Nat} (h : k < 441) : nI k / 21 = (gp k).2 := pk_div (d := 21) (by omega) (by omega) (by omega)
theorem gp_at {x y : Nat} (hx : x < 21) : gp (21 * y + x) = (nI x, nI y) := by
  unfold gp
  rw [show (21 * y + x) % 21 = x by omega, show (21 * y + x) / 21 = y by omega]
def grB (f : Nat → Int32) (fo tu : Int32) (T : Nat) (fx fy : Nat → Int32) (j k : Nat) : Bool := decide (0 < cnt (fanB f fo tu T fx fy (gp k).1 (gp k).2 j) 80)
theorem ground_in (h : SR T P fo tu f pf g xs ys laws) (hfr : FR fx fy fan) {j y : Nat} (hj : j < T) (hy : y < 21) (kk : Int32 → Int32 → Option Int32) : ∀ (d x fu : Nat), x + d = 21 → d < fu →
    FL_X8_ground_79 fx fy (nI T) fo tu f (nI j) (nI y) kk fu (nI (cnt (grB f fo tu T fx fy j) (21 * y + x))) (nI x) = kk (nI (cnt (grB f fo tu T fx fy j) (21 * (y + 1)))) (nI 21)
  | 0, x, fu + 1, hi, _ => by
    have e : x = 21 := by omega
    subst e
    unfold FL_X8_ground_79
    rw [if_pos (by decide), show 21 * y + 21 = 21 * (y + 1) by omega]
  | d + 1, x, fu + 1, hi, hfu => by
    have ih := ground_in h hfr hj hy kk d (x + 1) fu (by omega) (by omega)
    unfold FL_X8_ground_79
    have hp : pt (nI x) (nI y) := ⟨nI_rg (by omega) (by omega), nI_rg (by omega) (by omega)⟩
    rw [if_neg (show ¬ (21 : Int32) ≤ nI x from nI_ge (b := 21) (by omega) (by omega)), canMean_cls h hfr hj hp]
    simp only [Option.bind_some, gB_if]
    rw [nI_1 x, nI_1, nI_p0]
    rw [← Nat.add_assoc, cnt] at ih
    have e : grB f fo tu T fx fy j (21 * y + x) = decide (0 < cnt (fanB f fo tu T fx fy (nI x) (nI y) j) 80) := by unfold grB; rw [gp_at (by omega)]
    rw [e] at ih
    cases hb : decide (0 < cnt (fanB f fo tu T fx fy (nI x) (nI y) j) 80)
    · rw [hb] at ih
      simpa using ih
    · rw [hb] at ih
      simpa using ih
theorem ground_out (h : SR T P fo tu f pf g xs ys laws) (hfr : FR fx fy fan) {j : Nat} (hj : j < T) (kk : Int32 → Int32 → Option Int32) : ∀ (d y fu : Nat), y + d = 21 → d < fu →
    FL_X8_ground_69 fx fy (nI T) fo tu f (nI j) kk fu (nI (cnt (grB f fo tu T fx fy j) (21 * y))) (nI y) = kk (nI (cnt (grB f fo tu T fx fy j) 441)) (nI 21)
  | 0, y, fu + 1, hi, _ => by
    have e : y = 21 := by omega
    subst e
    unfold FL_X8_ground_69
    rw [if_pos (by decide)]
  | d + 1, y, fu + 1, hi, hfu => by
    have hg := gN0_big
    have ih := ground_out h hfr hj kk d (y + 1) fu (by omega) (by omega)
    unfold FL_X8_ground_69
    rw [if_neg (show ¬ (21 : Int32) ≤ nI y from nI_ge (b := 21) (by omega) (by omega))]
    refine (ground_in h hfr hj (by omega) _ 21 0 gN0 (by omega) (by omega)).trans ?_
    show FL_X8_ground_69 fx fy (nI T) fo tu f (nI j) kk fu _ (nI y + 1) = _
    rw [nI_1]
    exact ih
theorem ground9 (h : SR T P fo tu f pf g xs ys laws) (hfr : FR fx fy fan) {j : Nat} (hj : j < T) (kk : Int32 → Int32 → Option Int32) : ∀ (d k fu : Nat), k + d = 441 → d < fu →
    FL_X9_ground_55 (nI T) fan g laws (nI j) kk fu (nI (cnt (grB f fo tu T fx fy j) k)) (nI k) = kk (nI (cnt (grB f fo tu T fx fy j) 441)) (nI 441)
  | 0, k, fu + 1, hi, _ => by
    have e : k = 441 := by omega
    subst e
    unfold FL_X9_ground_55
    rw [if_pos (by decide)]
  | d + 1, k, fu + 1, hi, hfu => by
    have ih := ground9 h hfr hj kk d (k + 1) fu (by omega) (by omega)
    unfold FL_X9_ground_55
    rw [if_neg (show ¬ (441 : Int32) ≤ nI k from nI_ge (b := 441) (by omega) (by omega)), gp_rem (by omega), gp_div (by omega), aloneBy_mod h hfr hj (gp_pt (by omega))]
    simp only [Option.bind_some]
    rw [nI_1 k, nI_1, nI_p0]
    rw [cnt] at ih
    have hc := cnt_le (fanB f fo tu T fx fy (gp k).1 (gp k).2 j) 80
    have e : grB f fo tu T fx fy j k = decide (0 < cnt (fanB f fo tu T fx fy (gp k).1 (gp k).2 j) 80) := rfl
    rw [e] at ih
    by_cases hz : 0 < cnt (fanB f fo tu T fx fy (gp k).1 (gp k).2 j) 80
    · rw [if_neg (nI_nle hz (by omega))]
      simpa [hz] using ih
    · have : cnt (fanB f fo tu T fx fy (gp k).1 (gp k).2 j) 80 = 0 := by omega
      rw [if_pos (by rw [this]; decide)]
      simpa [hz] using ih
theorem eq_ground (h : SR T P fo tu f pf g xs ys laws) (hfr : FR fx fy fan) (th k : Int32) : ∃ r, F_X8_ground fx fy (nI T) fo tu f th k = some r ∧ F_X9_ground (nI T) fan g laws th k = some r := by
  have hT := h.1
  have hg := gN0_big
  unfold F_X8_ground F_X9_ground
  rw [has_cls (by omega), isThing_mod (by omega), in_mod32]
  simp only [Option.bind_some, gB_if]
  cases h1 : inb th.toInt 0 (T - 1)
  · exact ⟨_, rfl, rfl⟩
  · obtain ⟨j, hj, rfl⟩ := inb_nI h1
    have c1 : (k < (-1)) ↔ k.toInt < -1 := gI_lt k (-1)
    have c2 : (k < 441) ↔ k.toInt < 441 := gI_lt k 441
    have c3 : (k < 0) ↔ k.toInt < 0 := gI_lt k 0
    simp only [if_true]
    show ∃ r, _ = some r ∧ (if inb k.toInt (-1) 440 = true then _ else _) = some r
    cases h4 : inb k.toInt (-1) 440
    · refine ⟨-1, ?_, rfl⟩
      rcases inb_f.mp h4 with h5 | h5
      · rw [if_pos (c1.mpr h5)]
      · rw [if_neg (by rw [c1]; omega), if_neg (by rw [c2]; omega)]
    · have h5 := inb_t.mp h4
      rw [if_neg (by rw [c1]; omega), if_pos (by rw [c2]; omega), if_pos rfl]
      by_cases hk : k.toInt < 0
      · rw [if_pos (c3.mpr hk), if_pos (c3.mpr hk)]
        have e1 := ground_out h hfr hj (fun l _ => some l) 21 0 gN0 (by omega) (by omega)
        have e2 := ground9 h hfr hj (fun l _ => some l) 441 0 gN0 (by omega) (by omega)
        exact ⟨_, e1, e2⟩
      · rw [if_neg (by rw [c3]; exact hk), if_neg (by rw [c3]; exact hk)]
        obtain ⟨q, hq, rfl⟩ : ∃ q, q < 441 ∧ k = nI q := inb_nI (n := 441) (by rw [inb_t]; omega)
        rw [gp_rem hq, gp_div hq, canMean_cls h hfr hj (gp_pt hq), aloneBy_mod h hfr hj (gp_pt hq)]
        simp only [Option.bind_some, gB_if]
        have hc := cnt_le (fanB f fo tu T fx fy (gp q).1 (gp q).2 j) 80
        generalize cnt (fanB f fo tu T fx fy (gp q).1 (gp q).2 j) 80 = A at hc ⊢
        by_cases hz : 0 < A
        · exact ⟨1, by simp [hz], by rw [if_neg (nI_nle hz (by omega))]⟩
        · have : A = 0 := by omega
          exact ⟨0, by simp [hz], by rw [if_pos (by rw [this]; decide)]⟩
end Share2
