/-! fewest, the model's table; fewest of both. -/
theorem nI_tb {m l : Nat} (hm : m < 1024) (hl : l < 10) : (nI m &&& nI (2 ^ l) = 0) ↔ m.testBit l = false := by
  have key : ∀ m : Fin 1024, ∀ l : Fin 10, decide (nI m.val &&& nI (2 ^ l.val) = 0) = !m.val.testBit l.val := by decide +kernel
  have h := key ⟨m, hm⟩ ⟨l, hl⟩
  have h2 : (decide (nI m &&& nI (2 ^ l) = 0) = true) ↔ ((!m.testBit l) = true) := by rw [h]
  simpa using h2
theorem nI_lowbit : ∀ p : Nat, p < 1024 → p ≠ 0 → nI p &&& (-(nI p)) = nI (2 ^ low p) := by
  have key : ∀ p : Fin 1024, p.val ≠ 0 → nI p.val &&& (-(nI p.val)) = nI (2 ^ low p.val) := by decide +kernel
  exact fun p hp h => key ⟨p, hp⟩ h
def sndW (M : Nat → Prop) (w : Nat → Nat) (p : Nat) : Prop := w p < 99 → ∃ m, M m ∧ m.testBit (low p) = true ∧ w p = w (lft p m) + 1
theorem few_in {M : Nat → Prop} {S p c : Nat} {a0 : Nat → Int32} (hS : S < 1024) (hM : ∀ m, M m → subs m S) (hc : c ≤ 80) (hcm : ∀ j, j < c → ∃ m, a0 j = nI m ∧ M m) (hp : p ≤ S) (hz : p ≠ 0) (kk : Int32 → (Nat → Int32) → Option (Int32 × (Nat → Int32) × (Nat → Int32))) : ∀ (d k fu : Nat) (a : Nat → Int32) (w : Nat → Nat), k + d = c → d < fu → (∀ r, r ≤ p → a r = nI (w r) ∧ w r ≤ 99) → sndW M w p → (∀ j m, j < k → a0 j = nI m → M m → m.testBit (low p) = true → w p ≤ w (lft p m) + 1) →
    ∃ (a' : Nat → Int32) (w' : Nat → Nat), (∀ r, r ≤ p → a' r = nI (w' r) ∧ w' r ≤ 99) ∧ (∀ r, r < p → w' r = w r) ∧ sndW M w' p ∧ (∀ j m, j < c → a0 j = nI m → M m → m.testBit (low p) = true → w' p ≤ w' (lft p m) + 1) ∧ FL_X9_fewestOf_116 (nI c) a0 (nI p) (nI (2 ^ low p)) kk fu (nI k) a = kk (nI c) a'
  | 0, k, fu + 1, a, w, hi, _, ht, h1, h2 => by
    have e : k = c := by omega
    subst e
    refine ⟨a, w, ht, fun r _ => rfl, h1, h2, ?_⟩
    unfold FL_X9_fewestOf_116
    rw [if_pos (nI_le (Nat.le_refl _) (by omega))]
  | d + 1, k, fu + 1, a, w, hi, hfu, ht, h1, h2 => by
    obtain ⟨m, em, hm⟩ := hcm k (by omega)
    have hmle := subs_le (hM m hm)
    have hpl : p < 1024 := by omega
    have hlow := low_lt p hpl hz
    have hll := lft_lt (m := m) hpl
    have hlle : lft p m ≤ p := Nat.and_le_left
    have ck : (nI k).toNatClampNeg = k := nI_clamp (by omega)
    have cp : (nI p).toNatClampNeg = p := nI_clamp (by omega)
    have cl : (nI (lft p m)).toNatClampNeg = lft p m := nI_clamp (by omega)
    have ap := (ht p (Nat.le_refl _)).1
    have bp := (ht p (Nat.le_refl _)).2
    have al := (ht (lft p m) hlle).1
    have bl := (ht (lft p m) hlle).2
    have step : FL_X9_fewestOf_116 (nI c) a0 (nI p) (nI (2 ^ low p)) kk (fu + 1) (nI k) a = if nI m &&& nI (2 ^ low p) = 0 then FL_X9_fewestOf_116 (nI c) a0 (nI p) (nI (2 ^ low p)) kk fu (nI (k + 1)) a else if nI (w p) ≤ nI (w (lft p m) + 1) then FL_X9_fewestOf_116 (nI c) a0 (nI p) (nI (2 ^ low p)) kk fu (nI (k + 1)) a else FL_X9_fewestOf_116 (nI c) a0 (nI p) (nI (2 ^ low p)) kk fu (nI (k + 1)) (upd a p (nI (w (lft p m) + 1))) := by
      rw [FL_X9_fewestOf_116]
      simp only [if_neg (nI_ge (show k < c by omega) (by omega)), if_pos (show gvp (nI k) 80 from gvp_nI (by omega) (by omega)), ck, em, nI_andn hpl (show m < 1024 by omega), if_pos (show gvp (nI (lft p m)) 1024 from gvp_nI (by omega) (by omega)), if_pos (show gvp (nI p) 1024 from gvp_nI (by omega) (by omega)), cp, cl, al, nI_1, upd_id, ap]
      rw [← ap, upd_id]
    rw [step]
    have same : ∀ q, q = w p → (∀ j m', j < k + 1 → a0 j = nI m' → M m' → m'.testBit (low p) = true → w p ≤ w (lft p m') + 1) → ∃ (a' : Nat → Int32) (w' : Nat → Nat), (∀ r, r ≤ p → a' r = nI (w' r) ∧ w' r ≤ 99) ∧ (∀ r, r < p → w' r = w r) ∧ sndW M w' p ∧ (∀ j m, j < c → a0 j = nI m → M m → m.testBit (low p) = true → w' p ≤ w' (lft p m) + 1) ∧ FL_X9_fewestOf_116 (nI c) a0 (nI p) (nI (2 ^ low p)) kk fu (nI (k + 1)) a = kk (nI c) a' := by
      intro q _ hcl
      exact few_in hS hM hc hcm hp hz kk d (k + 1) fu a w (by omega) (by omega) ht h1 hcl
    have ext : (m.testBit (low p) = true → w p ≤ w (lft p m) + 1) → ∀ j m', j < k + 1 → a0 j = nI m' → M m' → m'.testBit (low p) = true → w p ≤ w (lft p m') + 1 := by
      intro hx j m' hj e hm' hb
      rcases Nat.lt_or_ge j k with h5 | h5
      · exact h2 j m' h5 e hm' hb
      · have : j = k := by omega
        subst this
        rw [em] at e
        have hm'l := subs_le (hM m' hm')
        have : m = m' := (nI_eq (by omega) (by omega)).mp e
        subst this
        exact hx hb
    by_cases hb : m.testBit (low p) = true
    · rw [if_neg (by rw [nI_tb (by omega) hlow, hb]; decide)]
      by_cases hle : w p ≤ w (lft p m) + 1
      · rw [if_pos (nI_le hle (by omega))]
        exact same _ rfl (ext (fun _ => hle))
      · rw [if_neg (nI_ge (by omega) (by omega))]
        have hless := lft_less hpl (low_spec p hpl hz).1 hb
        let w1 : Nat → Nat := fun r => if r = p then w (lft p m) + 1 else w r
        have ew1 : w1 p = w (lft p m) + 1 := if_pos rfl
        have ew2 : ∀ r, r ≠ p → w1 r = w r := fun r hr => if_neg hr
        have lne : ∀ m', m'.testBit (low p) = true → lft p m' ≠ p := fun m' hb' e => by
          have := lft_less hpl (low_spec p hpl hz).1 hb'
          omega
        obtain ⟨a', w', g1, g2, g3, g4, g5⟩ := few_in hS hM hc hcm hp hz kk d (k + 1) fu (upd a p (nI (w (lft p m) + 1))) w1 (by omega) (by omega) (by
          intro r hr
          by_cases e : r = p
          · rw [e, upd_self, ew1]
            exact ⟨rfl, by omega⟩
          · rw [upd_ne a _ e, ew2 r e]
            exact ht r hr) (by
          intro _
          exact ⟨m, hm, hb, by rw [ew1, ew2 _ (lne m hb)]⟩) (by
          intro j m' hj e hm' hb'
          rw [ew1, ew2 _ (lne m' hb')]
          rcases Nat.lt_or_ge j k with h5 | h5
          · have := h2 j m' h5 e hm' hb'
            omega
          · have : j = k := by omega
            subst this
            rw [em] at e
            have hm'l := subs_le (hM m' hm')
            have : m = m' := (nI_eq (by omega) (by omega)).mp e
            subst this
            omega)
        refine ⟨a', w', g1, ?_, g3, g4, g5⟩
        intro r hr
        rw [g2 r hr]
        exact ew2 r (by omega)
    · rw [if_pos ((nI_tb (by omega) hlow).mpr (by simpa using hb))]
      exact same _ rfl (ext (fun h => absurd h hb))
/-- what the table holds below q -/
def fewT (M : Nat → Prop) (S q : Nat) (w : Nat → Nat) : Prop := w 0 = 0 ∧ ∀ p, p < q → p ≠ 0 → subs p S → sndW M w p ∧ ∀ m, M m → m.testBit (low p) = true → w p ≤ w (lft p m) + 1
theorem few_out {M : Nat → Prop} {S c : Nat} {a0 : Nat → Int32} (hS : S < 1024) (hM : ∀ m, M m → subs m S) (hc : c ≤ 80) (hcm : ∀ j, j < c → ∃ m, a0 j = nI m ∧ M m) (hcm2 : ∀ m, M m → ∃ j, j < c ∧ a0 j = nI m) (kk : Int32 → (Nat → Int32) → Option (Int32 × (Nat → Int32) × (Nat → Int32))) : ∀ (d q fu : Nat) (a : Nat → Int32) (w : Nat → Nat), q + d = S + 1 → 0 < q → d < fu → (∀ r, r < q → a r = nI (w r) ∧ w r ≤ 99) → fewT M S q w →
    ∃ (a' : Nat → Int32) (w' : Nat → Nat), (∀ r, r < S + 1 → a' r = nI (w' r) ∧ w' r ≤ 99) ∧ fewT M S (S + 1) w' ∧ FL_X9_fewestOf_81 (nI S) (nI c) a0 kk fu (nI q) a = kk (nI (S + 1)) a'
  | 0, q, fu + 1, a, w, hi, _, _, ht, hf => by
    have e : q = S + 1 := by omega
    subst e
    refine ⟨a, w, ht, hf, ?_⟩
    unfold FL_X9_fewestOf_81
    rw [if_pos (nI_lt (by omega) (by omega))]
  | d + 1, q, fu + 1, a, w, hi, hq0, hfu, ht, hf => by
    have hg := gN0_big
    have cq : (nI q).toNatClampNeg = q := nI_clamp (by omega)
    have ih := few_out hS hM hc hcm hcm2 kk d (q + 1) fu
    have step : FL_X9_fewestOf_81 (nI S) (nI c) a0 kk (fu + 1) (nI q) a = if nI q &&& (nI S ^^^ (-1)) = 0 then FL_X9_fewestOf_116 (nI c) a0 (nI q) (nI (2 ^ low q)) (fun _ a15_116 => FL_X9_fewestOf_81 (nI S) (nI c) a0 kk fu (nI (q + 1)) a15_116) gN0 0 (upd a q 99) else FL_X9_fewestOf_81 (nI S) (nI c) a0 kk fu (nI (q + 1)) (upd a q 99) := by
      rw [FL_X9_fewestOf_81]
      simp only [if_neg (nI_nlt (show q ≤ S by omega) (by omega)), if_pos (show gvp (nI q) 1024 from gvp_nI (by omega) (by omega)), cq, nI_1, nI_lowbit q (by omega) (by omega)]
    rw [step]
    let w1 : Nat → Nat := fun r => if r = q then 99 else w r
    have ew1 : w1 q = 99 := if_pos rfl
    have ew2 : ∀ r, r ≠ q → w1 r = w r := fun r hr => if_neg hr
    have ht1 : ∀ r, r ≤ q → upd a q 99 r = nI (w1 r) ∧ w1 r ≤ 99 := by
      intro r hr
      by_cases e : r = q
      · rw [e, upd_self, ew1]
        exact ⟨rfl, by omega⟩
      · rw [upd_ne a _ e, ew2 r e]
        exact ht r (by omega)
    -- entries below q speak of entries below q
    have keep : ∀ (w' : Nat → Nat), (∀ r, r < q → w' r = w r) → ∀ p, p < q → p ≠ 0 → subs p S → sndW M w' p ∧ ∀ m, M m → m.testBit (low p) = true → w' p ≤ w' (lft p m) + 1 := by
      intro w' hw' p hpq hpz hps
      obtain ⟨s1, s2⟩ := hf.2 p hpq hpz hps
      have hl : ∀ m, lft p m < q := fun m => Nat.lt_of_le_of_lt Nat.and_le_left hpq
      refine ⟨?_, ?_⟩
      · intro hv
        rw [hw' p hpq] at hv
        obtain ⟨m, m1, m2, m3⟩ := s1 hv
        exact ⟨m, m1, m2, by rw [hw' p hpq, hw' _ (hl m)]; exact m3⟩
      · intro m m1 m2
        rw [hw' p hpq, hw' _ (hl m)]
        exact s2 m m1 m2
    by_cases hsub : subs q S
    · rw [if_pos ((nI_sub0 (by omega) hS).mpr hsub)]
      obtain ⟨a', w', g1, g2, g3, g4, g5⟩ := few_in hS hM hc hcm (subs_le hsub) (by omega) (fun _ a15_116 => FL_X9_fewestOf_81 (nI S) (nI c) a0 kk fu (nI (q + 1)) a15_116) c 0 gN0 (upd a q 99) w1 (by omega) (by omega) ht1 (by
        intro hv
        rw [ew1] at hv
        omega) (fun j m hj => by omega)
      have hw' : ∀ r, r < q → w' r = w r := fun r hr => by rw [g2 r hr]; exact ew2 r (by omega)
      rw [show (0 : Int32) = nI 0 from rfl, g5]
      refine ih a' w' (by omega) (by omega) (by omega) (fun r hr => g1 r (by omega)) ⟨by rw [hw' 0 hq0]; exact hf.1, ?_⟩
      intro p hp hpz hps
      rcases Nat.lt_or_ge p q with h5 | h5
      · exact keep w' hw' p h5 hpz hps
      · have : p = q := by omega
        subst this
        refine ⟨g3, fun m m1 m2 => ?_⟩
        obtain ⟨j, hj, ej⟩ := hcm2 m m1
        exact g4 j m hj ej m1 m2
    · rw [if_neg (by rw [nI_sub0 (by omega) hS]; exact hsub)]
      refine ih (upd a q 99) w1 (by omega) (by omega) (by omega) (fun r hr => ht1 r (by omega)) ⟨by rw [ew2 0 (by omega)]; exact hf.1, ?_⟩
      intro p hp hpz hps
      rcases Nat.lt_or_ge p q with h5 | h5
      · exact keep w1 (fun r hr => ew2 r (by omega)) p h5 hpz hps
      · have : p = q := by omega
        subst this
        exact absurd hps hsub
section Fewest9
variable {T P : Nat} {fo tu : Int32} {f pf g xs ys laws fx fy fan : Nat → Int32}
theorem some_loop (h : SR T P fo tu f pf g xs ys laws) (hfr : FR fx fy fan) {x y : Int32} (hp : pt x y) {S : Nat} (hS : S < 1024) (kk : Int32 → Int32 → (Nat → Int32) → Option (Int32 × (Nat → Int32) × (Nat → Int32))) : ∀ (d i fu c : Nat) (a : Nat → Int32), i + d = 80 → d < fu → rowsU (fmm f fo tu T fx fy x y) S i c a →
    ∃ (c' : Nat) (a' : Nat → Int32), rowsU (fmm f fo tu T fx fy x y) S 80 c' a' ∧ FL_X9_fewestOf_6 (nI T) fan g laws (nI S) x y kk fu (nI c) (nI i) a = kk (nI c') (nI 80) a'
  | 0, i, fu + 1, c, a, hi, _, hr => by
    have e : i = 80 := by omega
    subst e
    refine ⟨c, a, hr, ?_⟩
    unfold FL_X9_fewestOf_6
    rw [if_pos (by decide)]
  | d + 1, i, fu + 1, c, a, hi, hfu, hr => by
    have hm : fmm f fo tu T fx fy x y i < 1024 := mean_1024 h
    have hci := hr.1
    have ci : (nI i).toNatClampNeg = i := nI_clamp (by omega)
    have cc : (nI c).toNatClampNeg = c := nI_clamp (by omega)
    have e8 : (80 : Int32) + nI i = nI (80 + i) := nI_add 80 i
    have c8 : (nI (80 + i)).toNatClampNeg = 80 + i := nI_clamp (by omega)
    obtain ⟨f1, f2, f3⟩ := hfr i (by omega)
    have step : FL_X9_fewestOf_6 (nI T) fan g laws (nI S) x y kk (fu + 1) (nI c) (nI i) a = if nI (fmm f fo tu T fx fy x y i) = 0 then FL_X9_fewestOf_6 (nI T) fan g laws (nI S) x y kk fu (nI c) (nI (i + 1)) a else (if nI (fmm f fo tu T fx fy x y i) &&& (nI S ^^^ (-1)) = 0 then FL_X9_fewestOf_6 (nI T) fan g laws (nI S) x y kk fu (nI (c + 1)) (nI (i + 1)) (upd a c (nI (fmm f fo tu T fx fy x y i))) else FL_X9_fewestOf_6 (nI T) fan g laws (nI S) x y kk fu (nI c) (nI (i + 1)) a) := by
      rw [FL_X9_fewestOf_6]
      simp only [if_neg (show ¬ (80 : Int32) ≤ nI i from nI_ge (b := 80) (by omega) (by omega)), e8, if_pos (show gvp (nI i) 160 from gvp_nI (by omega) (by omega)), if_pos (show gvp (nI (80 + i)) 160 from gvp_nI (by omega) (by omega)), ci, c8, f1, f2]
      rw [h.means hp f3 rg0]
      simp only [Option.bind_some, if_pos (show gvp (nI c) 80 from gvp_nI (by omega) (by omega)), cc, nI_1]
      rfl
    rw [step]
    generalize hmi : fmm f fo tu T fx fy x y i = mi at hm ⊢
    have ih := some_loop h hfr hp hS kk d (i + 1) fu
    by_cases hz : mi = 0
    · rw [if_pos (by rw [hz]; rfl)]
      exact ih c a (by omega) (by omega) (rowsU_same hr (Or.inl (by rw [hmi]; intro q; exact q.1 hz)))
    · rw [if_neg (nI_ne0 (by omega) (by omega))]
      by_cases hsub : subs mi S
      · rw [if_pos ((nI_sub0 hm hS).mpr hsub)]
        have hra := rowsU_add hr (by rw [hmi]; exact ⟨hz, hsub⟩)
        rw [hmi] at hra
        exact ih _ _ (by omega) (by omega) hra
      · rw [if_neg (by rw [nI_sub0 hm hS]; exact hsub)]
        exact ih c a (by omega) (by omega) (rowsU_same hr (Or.inl (by rw [hmi]; intro q; exact hsub q.2)))
def fewW (r : Option Nat) : Int32 := match r with
  | some v => nI v
  | none => 99
theorem fewest_mod (h : SR T P fo tu f pf g xs ys laws) (hfr : FR fx fy fan) {x y : Int32} (hp : pt x y) {S : Nat} (hS : S < 1024) (sm fw : Nat → Int32) : ∃ (r : Option Nat) (sm' fw' : Nat → Int32), fewI (UM (fmm f fo tu T fx fy x y) S 80) S r ∧ F_X9_fewestOf (nI T) fan g laws sm fw (nI S) x y = some (fewW r, sm', fw') := by
  have hg := gN0_big
  have cS : (nI S).toNatClampNeg = S := nI_clamp (by omega)
  have hM : ∀ m, UM (fmm f fo tu T fx fy x y) S 80 m → subs m S := by
    rintro m ⟨k, -, -, -, h4⟩
    exact h4
  obtain ⟨c, a, hr, e⟩ := some_loop h hfr hp hS (fun l4_6 _ a14_6 => FL_X9_fewestOf_81 (nI S) l4_6 a14_6 (fun _ a15_81 => if gvp (nI S) 1024 then (some ((a15_81 (nI S).toNatClampNeg), a14_6, a15_81)) else none) gN0 1 (upd fw 0 0)) 80 0 gN0 0 sm (by omega) (by omega) ⟨Nat.le_refl _, fun j hj => by omega, fun m hm => by obtain ⟨k, hk, -⟩ := hm; omega⟩
  obtain ⟨a', w', g1, g2, g3⟩ := few_out hS hM hr.1 hr.2.1 hr.2.2 (fun _ a15_81 => if gvp (nI S) 1024 then (some ((a15_81 (nI S).toNatClampNeg), a, a15_81)) else none) S 1 gN0 (upd fw 0 0) (fun _ => 0) (by omega) (by omega) (by omega) (by
    intro r hr
    have : r = 0 := by omega
    rw [this, upd_self]
    exact ⟨rfl, by decide⟩) ⟨rfl, fun p hp hz => by omega⟩
  have hend := few_end hS hM g2.1 (fun p hz hs => (g2.2 p (by have := subs_le hs; omega) hz hs).1) (fun p m hz hs => (g2.2 p (by have := subs_le hs; omega) hz hs).2 m) (fun p hs => (g1 p (by have := subs_le hs; omega)).2)
  refine ⟨_, a, a', hend.1, ?_⟩
  unfold F_X9_fewestOf
  refine e.trans (g3.trans ?_)
  simp only [if_pos (show gvp (nI S) 1024 from gvp_nI (by omega) (by omega)), cS, (g1 S (by omega)).1]
  by_cases hw : w' S < 99
  · rw [if_pos hw]
    rfl
  · rw [if_neg hw, hend.2 hw]
    rfl
theorem pow_T {T : Nat} (hT : T ≤ 10) : 2 ^ T ≤ 1024 := Nat.pow_le_pow_right (n := 2) (by decide) hT
theorem isSet_cls {T : Nat} (hT : T ≤ 10) (b : Int32) : F_X8_isSet (nI T) b = some (gB (inb b.toInt 0 ((2 ^ T : Nat) - 1))) := by
  have := pow_T hT
  unfold F_X8_isSet F_X4_size
  simp only [Option.bind_some]
  rw [nI_shl1 T (by omega)]
  exact two_tests (gI_lt b 0) (le_pred (nI_toInt (by omega)))
theorem isSet_mod {T : Nat} (hT : T ≤ 10) (b : Int32) : F_X9_isSet (nI T) b = some (gB (inb b.toInt 1 ((2 ^ T : Nat) - 1))) := by
  have := pow_T hT
  unfold F_X9_isSet
  rw [in_mod32]
  simp only [Option.bind_some, one_bit]
  rw [i64_of, nI_shl1 T (by omega), nI_m1 (by omega)]
  rfl
theorem fewI_10 {M : Nat → Prop} {S : Nat} {r : Option Nat} (h : fewI M S r) : ∀ v, r = some v → v ≤ 10 := by
  rintro v rfl
  exact h.2.2
theorem eq_fewest (h : SR T P fo tu f pf g xs ys laws) (hfr : FR fx fy fan) (cz : Int32) (cm cl sm fw : Nat → Int32) (b x y : Int32) : ∃ (r cz' : Int32) (cm' cl' sm' fw' : Nat → Int32), F_X8_fewest fx fy (nI T) fo tu f cz cm cl b x y = some (r, cz', cm', cl') ∧ F_X9_fewest (nI T) fan g laws sm fw b x y = some (r, sm', fw') := by
  have hT := h.1
  have hpw := pow_T hT
  unfold F_X8_fewest F_X9_fewest
  rw [isSet_cls hT, isSet_mod hT, isPoint_cls, isPoint_mod]
  simp only [Option.bind_some, gB_if]
  cases h1 : inb b.toInt 1 ((2 ^ T : Nat) - 1)
  · have : inb b.toInt 0 ((2 ^ T : Nat) - 1) = false ∨ b = 0 := by
      rcases inb_f.mp h1 with h2 | h2
      · rcases Int.lt_or_le b.toInt 0 with h3 | h3
        · exact Or.inl (inb_f.mpr (Or.inl h3))
        · exact Or.inr ((gI_eq b 0).mpr (by show b.toInt = 0; omega))
      · exact Or.inl (inb_f.mpr (Or.inr h2))
    rcases this with h2 | h2
    · exact ⟨-1, cz, cm, cl, sm, fw, by rw [h2]; rfl, rfl⟩
    · refine ⟨-1, cz, cm, cl, sm, fw, ?_, rfl⟩
      rw [if_pos h2]
      split <;> rfl
  · have h2 := inb_t.mp h1
    rw [inb_t.mpr (show 0 ≤ b.toInt ∧ b.toInt ≤ ((2 ^ T : Nat) : Int) - 1 by omega)]
    obtain ⟨S, hS, rfl⟩ : ∃ S, S < 2 ^ T ∧ b = nI S := inb_nI (by rw [inb_t]; omega)
    have hne : ¬ nI S = 0 := fun e => by
      rw [e] at h2
      exact absurd h2.1 (by decide)
    simp only [if_true, if_neg hne]
    cases h3 : ptB x y
    · exact ⟨-1, cz, cm, cl, sm, fw, by simp, by simp⟩
    · obtain ⟨r, cz', cm', cl', hr, e1⟩ := fewest_cls h hfr (ptB_t.mp h3) (show S < 1024 by omega) cz cm cl
      obtain ⟨r2, sm', fw', hr2, e2⟩ := fewest_mod h hfr (ptB_t.mp h3) (show S < 1024 by omega) sm fw
      rw [e1, e2]
      obtain rfl := fewI_one hr hr2
      simp only [Option.bind_some, if_true]
      refine ⟨fewV r, cz', cm', cl', sm', fw', rfl, ?_⟩
      cases r with
      | none => rfl
      | some v =>
        have := fewI_10 hr v rfl
        rw [if_pos (show fewW (some v) ≤ 80 from nI_le (b := 80) (by omega) (by omega))]
        rfl
end Fewest9
