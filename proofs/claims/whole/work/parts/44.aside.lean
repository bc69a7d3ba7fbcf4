/-! aside. -/
theorem sub0 (v : Int32) : 0 - v = -v := by rw [Int32.sub_eq_add_neg, Int32.zero_add]
theorem size_mod (v : Int32) : F_X9_size v = some (gabs v) := by
  unfold F_X9_size gabs
  by_cases h : 0 ≤ v
  · rw [if_pos h, if_pos h]
  · rw [if_neg h, if_neg h, sub0]
def dst (x y : Int32) (k : Nat) : Int32 := gabs ((gp k).1 - x) + gabs ((gp k).2 - y)
section Aside
variable {T P : Nat} {fo tu : Int32} {f pf g xs ys laws fx fy fan : Nat → Int32}
def okQ (f : Nat → Int32) (fo tu : Int32) (T : Nat) (fx fy : Nat → Int32) (S : Nat) (x y : Int32) (far ar : Nat) (k : Nat) : Prop := dst x y k = nI far ∧ ∃ v, fewI (UM (fmm f fo tu T fx fy (gp k).1 (gp k).2) S 80) S (some v) ∧ v ≤ ar
noncomputable def okB (f : Nat → Int32) (fo tu : Int32) (T : Nat) (fx fy : Nat → Int32) (S : Nat) (x y : Int32) (far ar : Nat) (k : Nat) : Bool := @decide (okQ f fo tu T fx fy S x y far ar k) (Classical.propDecidable _)
theorem okB_t {S : Nat} {x y : Int32} {far ar k : Nat} (h : okQ f fo tu T fx fy S x y far ar k) : okB f fo tu T fx fy S x y far ar k = true := by
  unfold okB
  exact @decide_eq_true _ (Classical.propDecidable _) h
theorem okB_f {S : Nat} {x y : Int32} {far ar k : Nat} (h : ¬ okQ f fo tu T fx fy S x y far ar k) : okB f fo tu T fx fy S x y far ar k = false := by
  unfold okB
  exact @decide_eq_false _ (Classical.propDecidable _) h
def vl (k : Nat) : Int32 := (100 * (gp k).1) + (gp k).2
theorem vl_nn {k : Nat} (h : k < 441) : ¬ vl k < 0 := by
  unfold vl gp
  show ¬ nI 100 * nI (k % 21) + nI (k / 21) < 0
  rw [pk_mul, nI_add]
  exact nI_neg _ (by omega)
theorem asideAt_in (h : SR T P fo tu f pf g xs ys laws) (hfr : FR fx fy fan) {S : Nat} (hS : S < 1024) {x y : Int32} {far ar yy : Nat} (har : ar ≤ 9) (hy : yy < 21) (kk : Int32 → Int32 → (Nat → Int32) → (Nat → Int32) → Option (Int32 × Int32 × (Nat → Int32) × (Nat → Int32))) : ∀ (d xx fu : Nat) (cz : Int32) (cm cl : Nat → Int32), xx + d = 21 → d < fu →
    ∃ (cz' : Int32) (cm' cl' : Nat → Int32), FL_X8_asideAt_13 fx fy (nI T) fo tu f (nI far) (nI S) x y (nI ar) (nI yy) kk fu (nI xx) cz cm cl = match fst (okB f fo tu T fx fy S x y far ar) (21 * yy + xx) d with
      | some k => some (vl k, cz', cm', cl')
      | none => kk (nI 21) cz' cm' cl'
  | 0, xx, fu + 1, cz, cm, cl, hi, _ => by
    have e : xx = 21 := by omega
    subst e
    refine ⟨cz, cm, cl, ?_⟩
    unfold FL_X8_asideAt_13
    rw [if_pos (by decide)]
    rfl
  | d + 1, xx, fu + 1, cz, cm, cl, hi, hfu => by
    have ih := asideAt_in h hfr hS (x := x) (y := y) (far := far) har hy kk d (xx + 1) fu
    have hp : pt (nI xx) (nI yy) := ⟨nI_rg (by omega) (by omega), nI_rg (by omega) (by omega)⟩
    have ed : gabs (nI xx - x) + gabs (nI yy - y) = dst x y (21 * yy + xx) := by unfold dst; rw [gp_at (by omega)]
    unfold FL_X8_asideAt_13
    rw [if_neg (show ¬ (21 : Int32) ≤ nI xx from nI_ge (b := 21) (by omega) (by omega)), nI_1, ed, fst]
    by_cases hd : dst x y (21 * yy + xx) = nI far
    · rw [if_pos hd]
      obtain ⟨r, cz1, cm1, cl1, hr, e1⟩ := fewest_cls h hfr hp hS cz cm cl
      rw [e1]
      simp only [Option.bind_some]
      have hr2 : fewI (UM (fmm f fo tu T fx fy (gp (21 * yy + xx)).1 (gp (21 * yy + xx)).2) S 80) S r := by rw [gp_at (by omega)]; exact hr
      cases r with
      | none =>
        rw [if_pos (show fewV none < 0 by decide), okB_f (by
          rintro ⟨-, v, hv, -⟩
          cases fewI_one hr2 hv)]
        obtain ⟨cz', cm', cl', e⟩ := ih cz1 cm1 cl1 (by omega) (by omega)
        refine ⟨cz', cm', cl', ?_⟩
        rw [← Nat.add_assoc] at e
        simpa using e
      | some v =>
        have hv10 := fewI_10 hr v rfl
        rw [if_neg (show ¬ fewV (some v) < 0 from nI_neg v (by omega))]
        by_cases hva : v ≤ ar
        · rw [if_neg (show ¬ nI ar < fewV (some v) from nI_nlt hva (by omega)), okB_t ⟨hd, v, hr2, hva⟩]
          refine ⟨cz1, cm1, cl1, ?_⟩
          show some ((100 * nI xx) + nI yy, cz1, cm1, cl1) = some (vl (21 * yy + xx), cz1, cm1, cl1)
          unfold vl
          rw [gp_at (by omega)]
        · rw [if_pos (show nI ar < fewV (some v) from nI_lt (by omega) (by omega)), okB_f (by
            rintro ⟨-, v', hv', hle⟩
            cases fewI_one hr2 hv'
            exact hva hle)]
          obtain ⟨cz', cm', cl', e⟩ := ih cz1 cm1 cl1 (by omega) (by omega)
          refine ⟨cz', cm', cl', ?_⟩
          rw [← Nat.add_assoc] at e
          simpa using e
    · rw [if_neg hd, okB_f (fun q => hd q.1)]
      obtain ⟨cz', cm', cl', e⟩ := ih cz cm cl (by omega) (by omega)
      refine ⟨cz', cm', cl', ?_⟩
      rw [← Nat.add_assoc] at e
      simpa using e
theorem asideAt_out (h : SR T P fo tu f pf g xs ys laws) (hfr : FR fx fy fan) {S : Nat} (hS : S < 1024) {x y : Int32} {far ar : Nat} (har : ar ≤ 9) (kk : Int32 → Int32 → (Nat → Int32) → (Nat → Int32) → Option (Int32 × Int32 × (Nat → Int32) × (Nat → Int32))) : ∀ (d yy fu : Nat) (cz : Int32) (cm cl : Nat → Int32), yy + d = 21 → d < fu →
    ∃ (cz' : Int32) (cm' cl' : Nat → Int32), FL_X8_asideAt_3 fx fy (nI T) fo tu f (nI far) (nI S) x y (nI ar) kk fu (nI yy) cz cm cl = match fst (okB f fo tu T fx fy S x y far ar) (21 * yy) (21 * d) with
      | some k => some (vl k, cz', cm', cl')
      | none => kk (nI 21) cz' cm' cl'
  | 0, yy, fu + 1, cz, cm, cl, hi, _ => by
    have e : yy = 21 := by omega
    subst e
    refine ⟨cz, cm, cl, ?_⟩
    unfold FL_X8_asideAt_3
    rw [if_pos (by decide)]
    rfl
  | d + 1, yy, fu + 1, cz, cm, cl, hi, hfu => by
    have hg := gN0_big
    unfold FL_X8_asideAt_3
    rw [if_neg (show ¬ (21 : Int32) ≤ nI yy from nI_ge (b := 21) (by omega) (by omega)), nI_1]
    obtain ⟨cz1, cm1, cl1, e1⟩ := asideAt_in h hfr hS (x := x) (y := y) (far := far) har (show yy < 21 by omega) (fun _ w32_1_13 a33_13 a34_13 => FL_X8_asideAt_3 fx fy (nI T) fo tu f (nI far) (nI S) x y (nI ar) kk fu (nI (yy + 1)) w32_1_13 a33_13 a34_13) 21 0 gN0 cz cm cl (by omega) (by omega)
    rw [show 21 * (d + 1) = 21 + 21 * d by omega, fst_app]
    rw [show 21 * yy + 0 = 21 * yy from rfl] at e1
    cases hf : fst (okB f fo tu T fx fy S x y far ar) (21 * yy) 21 with
    | some k =>
      rw [hf] at e1
      exact ⟨cz1, cm1, cl1, e1⟩
    | none =>
      rw [hf] at e1
      obtain ⟨cz2, cm2, cl2, e2⟩ := asideAt_out h hfr hS (x := x) (y := y) (far := far) har kk d (yy + 1) fu cz1 cm1 cl1 (by omega) (by omega)
      refine ⟨cz2, cm2, cl2, ?_⟩
      rw [show 21 * (yy + 1) = 21 * yy + 21 by omega] at e2
      exact e1.trans e2
/-- the first step aside that will do, over the distances -/
noncomputable def asd (f : Nat → Int32) (fo tu : Int32) (T : Nat) (fx fy : Nat → Int32) (S : Nat) (x y : Int32) (ar : Nat) : Nat → Nat → Option Nat
  | _, 0 => none
  | far, d + 1 => match fst (okB f fo tu T fx fy S x y far ar) 0 441 with
    | some k => some k
    | none => asd f fo tu T fx fy S x y ar (far + 1) d
theorem aside_cls (h : SR T P fo tu f pf g xs ys laws) (hfr : FR fx fy fan) {S : Nat} (hS : S < 1024) {x y : Int32} {ar : Nat} (har : ar ≤ 9) (kk : Int32 → Int32 → (Nat → Int32) → (Nat → Int32) → Option (Int32 × Int32 × (Nat → Int32) × (Nat → Int32))) : ∀ (d far fu : Nat) (cz : Int32) (cm cl : Nat → Int32), far + d = 7 → d < fu →
    ∃ (cz' : Int32) (cm' cl' : Nat → Int32), FL_X8_aside_38 fx fy (nI T) fo tu f (nI S) x y (nI ar) kk fu (nI far) cz cm cl = match asd f fo tu T fx fy S x y ar far d with
      | some k => some (vl k, cz', cm', cl')
      | none => kk (nI 7) cz' cm' cl'
  | 0, far, fu + 1, cz, cm, cl, hi, _ => by
    have e : far = 7 := by omega
    subst e
    refine ⟨cz, cm, cl, ?_⟩
    unfold FL_X8_aside_38
    rw [if_pos (by decide)]
    rfl
  | d + 1, far, fu + 1, cz, cm, cl, hi, hfu => by
    have hg := gN0_big
    obtain ⟨cz1, cm1, cl1, e1⟩ := asideAt_out h hfr hS (x := x) (y := y) (far := far) har (fun _ w32_1_3 a33_3 a34_3 => some ((-4), w32_1_3, a33_3, a34_3)) 21 0 gN0 cz cm cl (by omega) (by omega)
    have e2 : F_X8_asideAt fx fy (nI T) fo tu f cz cm cl (nI far) (nI S) x y (nI ar) = match fst (okB f fo tu T fx fy S x y far ar) 0 441 with
      | some k => some (vl k, cz1, cm1, cl1)
      | none => some ((-4), cz1, cm1, cl1) := e1
    unfold FL_X8_aside_38
    rw [if_neg (show ¬ (6 : Int32) < nI far from nI_nlt (a := 6) (b := far) (by omega) (by omega)), e2, nI_1, asd]
    cases hf : fst (okB f fo tu T fx fy S x y far ar) 0 441 with
    | some k =>
      have hk := fst_bd hf
      simp only [Option.bind_some]
      rw [if_neg (vl_nn (by omega))]
      exact ⟨cz1, cm1, cl1, rfl⟩
    | none =>
      simp only [Option.bind_some]
      rw [if_pos (by decide)]
      exact aside_cls h hfr hS har kk d (far + 1) fu cz1 cm1 cl1 (by omega) (by omega)
theorem aside_in (h : SR T P fo tu f pf g xs ys laws) (hfr : FR fx fy fan) {S : Nat} (hS : S < 1024) {x y : Int32} {far ar : Nat} (har : ar ≤ 9) (kk : Int32 → (Nat → Int32) → (Nat → Int32) → Option (Int32 × (Nat → Int32) × (Nat → Int32))) : ∀ (d k fu : Nat) (sm fw : Nat → Int32), k + d = 441 → d < fu →
    ∃ (sm' fw' : Nat → Int32), FL_X9_aside_44 (nI T) fan g laws (nI S) x y (nI ar) (nI far) kk fu (nI k) sm fw = match fst (okB f fo tu T fx fy S x y far ar) k d with
      | some q => some (vl q, sm', fw')
      | none => kk (nI 441) sm' fw'
  | 0, k, fu + 1, sm, fw, hi, _ => by
    have e : k = 441 := by omega
    subst e
    refine ⟨sm, fw, ?_⟩
    unfold FL_X9_aside_44
    rw [if_pos (by decide)]
    rfl
  | d + 1, k, fu + 1, sm, fw, hi, hfu => by
    have ih := aside_in h hfr hS (x := x) (y := y) (far := far) har kk d (k + 1) fu
    unfold FL_X9_aside_44
    rw [if_neg (show ¬ (441 : Int32) ≤ nI k from nI_ge (b := 441) (by omega) (by omega)), gp_rem (by omega), gp_div (by omega), size_mod, size_mod]
    simp only [Option.bind_some]
    rw [nI_1, fst]
    show ∃ sm' fw', (if dst x y k = nI far then _ else _) = _
    by_cases hd : dst x y k = nI far
    · rw [if_pos hd]
      obtain ⟨r, sm1, fw1, hr, e1⟩ := fewest_mod h hfr (gp_pt (show k < 441 by omega)) hS sm fw
      rw [e1]
      simp only [Option.bind_some]
      cases r with
      | none =>
        rw [if_pos (show nI ar < fewW none from nI_lt (b := 99) (by omega) (by omega)), okB_f (by
          rintro ⟨-, v, hv, -⟩
          cases fewI_one hr hv)]
        exact ih sm1 fw1 (by omega) (by omega)
      | some v =>
        have hv10 := fewI_10 hr v rfl
        by_cases hva : v ≤ ar
        · rw [if_neg (show ¬ nI ar < fewW (some v) from nI_nlt hva (by omega)), okB_t ⟨hd, v, hr, hva⟩]
          exact ⟨sm1, fw1, rfl⟩
        · rw [if_pos (show nI ar < fewW (some v) from nI_lt (by omega) (by omega)), okB_f (by
            rintro ⟨-, v', hv', hle⟩
            cases fewI_one hr hv'
            exact hva hle)]
          exact ih sm1 fw1 (by omega) (by omega)
    · rw [if_neg hd, okB_f (fun q => hd q.1)]
      exact ih sm fw (by omega) (by omega)
theorem aside_mod (h : SR T P fo tu f pf g xs ys laws) (hfr : FR fx fy fan) {S : Nat} (hS : S < 1024) {x y : Int32} {ar : Nat} (har : ar ≤ 9) (kk : Int32 → (Nat → Int32) → (Nat → Int32) → Option (Int32 × (Nat → Int32) × (Nat → Int32))) : ∀ (d far fu : Nat) (sm fw : Nat → Int32), far + d = 7 → d < fu →
    ∃ (sm' fw' : Nat → Int32), FL_X9_aside_34 (nI T) fan g laws (nI S) x y (nI ar) kk fu (nI far) sm fw = match asd f fo tu T fx fy S x y ar far d with
      | some q => some (vl q, sm', fw')
      | none => kk (nI 7) sm' fw'
  | 0, far, fu + 1, sm, fw, hi, _ => by
    have e : far = 7 := by omega
    subst e
    refine ⟨sm, fw, ?_⟩
    unfold FL_X9_aside_34
    rw [if_pos (by decide)]
    rfl
  | d + 1, far, fu + 1, sm, fw, hi, hfu => by
    have hg := gN0_big
    unfold FL_X9_aside_34
    rw [if_neg (show ¬ (7 : Int32) ≤ nI far from nI_ge (b := 7) (by omega) (by omega)), nI_1, asd]
    obtain ⟨sm1, fw1, e1⟩ := aside_in h hfr hS (x := x) (y := y) (far := far) har (fun _ a14_44 a15_44 => FL_X9_aside_34 (nI T) fan g laws (nI S) x y (nI ar) kk fu (nI (far + 1)) a14_44 a15_44) 441 0 gN0 sm fw (by omega) (by omega)
    cases hf : fst (okB f fo tu T fx fy S x y far ar) 0 441 with
    | some q =>
      rw [hf] at e1
      exact ⟨sm1, fw1, e1⟩
    | none =>
      rw [hf] at e1
      obtain ⟨sm2, fw2, e2⟩ := aside_mod h hfr hS har kk d (far + 1) fu sm1 fw1 (by omega) (by omega)
      exact ⟨sm2, fw2, e1.trans e2⟩
theorem eq_aside (h : SR T P fo tu f pf g xs ys laws) (hfr : FR fx fy fan) (cz : Int32) (cm cl sm fw : Nat → Int32) (b x y arms : Int32) : ∃ (r cz' : Int32) (cm' cl' sm' fw' : Nat → Int32), F_X8_aside fx fy (nI T) fo tu f cz cm cl b x y arms = some (r, cz', cm', cl') ∧ F_X9_aside (nI T) fan g laws sm fw b x y arms = some (r, sm', fw') := by
  have hT := h.1
  have hpw := pow_T hT
  have hg := gN0_big
  unfold F_X8_aside F_X9_aside
  rw [isSet_cls hT, isSet_mod hT, isPoint_cls, isPoint_mod, in_mod32]
  simp only [Option.bind_some, gB_if]
  cases h1 : inb b.toInt 1 ((2 ^ T : Nat) - 1)
  · have : inb b.toInt 0 ((2 ^ T : Nat) - 1) = false ∨ b = 0 := by
      rcases inb_f.mp h1 with h2 | h2
      · rcases Int.lt_or_le b.toInt 0 with h3 | h3
        · exact Or.inl (inb_f.mpr (Or.inl h3))
        · exact Or.inr ((gI_eq b 0).mpr (by show b.toInt = 0; omega))
      · exact Or.inl (inb_f.mpr (Or.inr h2))
    rcases this with h2 | h2
    · exact ⟨-1, cz, cm, cl, sm, fw, by rw [h2]; rfl, rfl⟩
    · refine ⟨-1, cz, cm, cl, sm, fw, ?_, rfl⟩
      rw [if_pos h2]
      split <;> rfl
  · have h2 := inb_t.mp h1
    rw [inb_t.mpr (show 0 ≤ b.toInt ∧ b.toInt ≤ ((2 ^ T : Nat) : Int) - 1 by omega)]
    obtain ⟨S, hS, rfl⟩ : ∃ S, S < 2 ^ T ∧ b = nI S := inb_nI (by rw [inb_t]; omega)
    have hne : ¬ nI S = 0 := fun e => by
      rw [e] at h2
      exact absurd h2.1 (by decide)
    simp only [if_true, if_neg hne]
    cases h3 : ptB x y
    · exact ⟨-1, cz, cm, cl, sm, fw, rfl, rfl⟩
    · have c1 : (arms < 1) ↔ arms.toInt < 1 := gI_lt arms 1
      have c2 : (arms ≤ 9) ↔ arms.toInt ≤ 9 := gI_le arms 9
      simp only [if_true]
      show ∃ (r cz' : Int32) (cm' cl' sm' fw' : Nat → Int32), _ = _ ∧ (if inb arms.toInt 1 9 = true then _ else _) = _
      cases h4 : inb arms.toInt 1 9
      · refine ⟨-1, cz, cm, cl, sm, fw, ?_, rfl⟩
        rcases inb_f.mp h4 with h5 | h5
        · rw [if_pos (c1.mpr h5)]
        · rw [if_neg (by rw [c1]; omega), if_neg (by rw [c2]; omega)]
      · have h5 := inb_t.mp h4
        obtain ⟨ar, har, rfl⟩ : ∃ q, q < 10 ∧ arms = nI q := inb_nI (n := 10) (by rw [inb_t]; omega)
        rw [if_neg (by rw [c1]; omega), if_pos (by rw [c2]; omega), if_pos rfl]
        obtain ⟨cz', cm', cl', e1⟩ := aside_cls h hfr (show S < 1024 by omega) (x := x) (y := y) (ar := ar) (by omega) (fun _ w32_1_38 a33_38 a34_38 => some ((-4), w32_1_38, a33_38, a34_38)) 7 0 gN0 cz cm cl (by omega) (by omega)
        obtain ⟨sm', fw', e2⟩ := aside_mod h hfr (show S < 1024 by omega) (x := x) (y := y) (ar := ar) (by omega) (fun _ a14_34 a15_34 => some ((-4), a14_34, a15_34)) 7 0 gN0 sm fw (by omega) (by omega)
        cases ha : asd f fo tu T fx fy S x y ar 0 7 with
        | some k =>
          rw [ha] at e1 e2
          exact ⟨vl k, cz', cm', cl', sm', fw', e1, e2⟩
        | none =>
          rw [ha] at e1 e2
          exact ⟨-4, cz', cm', cl', sm', fw', e1, e2⟩
end Aside
