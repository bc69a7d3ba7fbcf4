/-! fewest: the class's table and the model's. -/
theorem nI_andn : ∀ {a b : Nat}, a < 1024 → b < 1024 → nI a &&& (nI b ^^^ (-1)) = nI (lft a b) := by
  intro a b ha hb
  apply Int32.toBitVec_inj.1
  show BitVec.ofNat 32 a &&& (BitVec.ofNat 32 b ^^^ BitVec.allOnes 32) = BitVec.ofNat 32 (lft a b)
  apply BitVec.eq_of_getLsbD_eq
  intro i hi
  rw [BitVec.getLsbD_and, BitVec.getLsbD_xor, BitVec.getLsbD_ofNat, BitVec.getLsbD_ofNat, BitVec.getLsbD_ofNat, BitVec.getLsbD_allOnes, lft_test ha]
  simp [hi]
theorem lft_0 {a b : Nat} (ha : a < 1024) : lft a b = 0 ↔ subs a b := by
  constructor
  · intro h i hi
    have := lft_test (m := b) ha i
    rw [h, hi, Nat.zero_testBit] at this
    cases hb : b.testBit i with
    | true => rfl
    | false => rw [hb] at this; cases this
  · intro h
    apply Nat.eq_of_testBit_eq
    intro i
    rw [lft_test ha, Nat.zero_testBit]
    cases hi : a.testBit i with
    | false => rfl
    | true => rw [h i hi]; rfl
theorem nI_sub0 {a b : Nat} (ha : a < 1024) (hb : b < 1024) : (nI a &&& (nI b ^^^ (-1)) = 0) ↔ subs a b := by
  rw [nI_andn ha hb, ← lft_0 ha]
  have hl := lft_lt (m := b) ha
  show nI _ = nI 0 ↔ _
  rw [nI_eq (by omega) (by omega)]
/-- the sets among the first i meanings that the cover may use -/
def UM (mm : Nat → Nat) (S i m : Nat) : Prop := ∃ k, k < i ∧ mm k = m ∧ m ≠ 0 ∧ subs m S
theorem UM_lt {mm : Nat → Nat} {S i m : Nat} (hS : S < 1024) (h : UM mm S i m) : m < 1024 := by
  obtain ⟨k, -, -, -, h4⟩ := h
  exact Nat.lt_of_le_of_lt (subs_le h4) hS
theorem UM_succ {mm : Nat → Nat} {S i m : Nat} : UM mm S (i + 1) m ↔ UM mm S i m ∨ (mm i = m ∧ m ≠ 0 ∧ subs m S) := by
  constructor
  · rintro ⟨k, h1, h2⟩
    rcases Nat.lt_or_ge k i with h | h
    · exact Or.inl ⟨k, h, h2⟩
    · have : k = i := by omega
      subst this
      exact Or.inr h2
  · rintro (⟨k, h1, h2⟩ | h)
    · exact ⟨k, by omega, h2⟩
    · exact ⟨i, by omega, h⟩
/-- rows of sets: c of them, just those of UM -/
def rowsU (mm : Nat → Nat) (S i c : Nat) (a : Nat → Int32) : Prop := c ≤ i ∧ (∀ j, j < c → ∃ m, a j = nI m ∧ UM mm S i m) ∧ ∀ m, UM mm S i m → ∃ j, j < c ∧ a j = nI m
theorem upd_self (a : Nat → Int32) (k : Nat) (v : Int32) : upd a k v k = v := pk_us
theorem upd_ne (a : Nat → Int32) {k j : Nat} (v : Int32) (h : j ≠ k) : upd a k v j = a j := pk_un h
theorem upd_id (a : Nat → Int32) (k : Nat) : upd a k (a k) = a := by
  funext j
  by_cases h : j = k
  · rw [h, upd_self]
  · rw [upd_ne a _ h]
theorem rowsU_add {mm : Nat → Nat} {S i c : Nat} {a : Nat → Int32} (h : rowsU mm S i c a) (hu : mm i ≠ 0 ∧ subs (mm i) S) : rowsU mm S (i + 1) (c + 1) (upd a c (nI (mm i))) := by
  obtain ⟨h1, h2, h3⟩ := h
  refine ⟨by omega, ?_, ?_⟩
  · intro j hj
    rcases Nat.lt_or_ge j c with hjc | hjc
    · obtain ⟨m, e, hm⟩ := h2 j hjc
      exact ⟨m, by rw [upd_ne a _ (by omega)]; exact e, UM_succ.mpr (Or.inl hm)⟩
    · have : j = c := by omega
      subst this
      exact ⟨mm i, upd_self _ _ _, UM_succ.mpr (Or.inr ⟨rfl, hu⟩)⟩
  · intro m hm
    rcases UM_succ.mp hm with hm | ⟨rfl, -⟩
    · obtain ⟨j, hj, e⟩ := h3 m hm
      exact ⟨j, by omega, by rw [upd_ne a _ (by omega)]; exact e⟩
    · exact ⟨c, by omega, upd_self _ _ _⟩
theorem rowsU_same {mm : Nat → Nat} {S i c : Nat} {a : Nat → Int32} (h : rowsU mm S i c a) (hs : ¬ (mm i ≠ 0 ∧ subs (mm i) S) ∨ UM mm S i (mm i)) : rowsU mm S (i + 1) c a := by
  obtain ⟨h1, h2, h3⟩ := h
  refine ⟨by omega, ?_, ?_⟩
  · intro j hj
    obtain ⟨m, e, hm⟩ := h2 j hj
    exact ⟨m, e, UM_succ.mpr (Or.inl hm)⟩
  · intro m hm
    rcases UM_succ.mp hm with hm | ⟨rfl, hu⟩
    · exact h3 m hm
    · rcases hs with hs | hs
      · exact absurd hu hs
      · exact h3 _ hs
theorem note_loop {c : Nat} {cm : Nat → Int32} {b : Int32} (hc : c < 80) (kk : Int32 → Option (Int32 × (Nat → Int32))) : ∀ (d i fu : Nat), i + d = c → d < fu →
    FL_X0_note_2 (nI c) cm b kk fu (nI i) = if anyF (fun j => decide (cm j = b)) i d then some (nI c, cm) else kk (nI c)
  | 0, i, fu + 1, hi, _ => by
    have e : i = c := by omega
    subst e
    unfold FL_X0_note_2
    rw [if_pos (nI_le (Nat.le_refl _) (by omega))]
    rfl
  | d + 1, i, fu + 1, hi, hfu => by
    have ih := note_loop (b := b) (cm := cm) hc kk d (i + 1) fu (by omega) (by omega)
    have ci : (nI i).toNatClampNeg = i := nI_clamp (by omega)
    unfold FL_X0_note_2
    simp only [if_neg (nI_ge (show i < c by omega) (by omega)), if_pos (show gvp (nI i) 80 from gvp_nI (by omega) (by omega)), ci]
    rw [anyF]
    by_cases hb : cm i = b
    · simp [hb]
    · rw [if_neg hb, nI_1, ih]
      simp [hb]
theorem note_cls {c : Nat} {cm : Nat → Int32} {b : Int32} (hc : c < 80) : F_X0_note (nI c) cm b = if anyF (fun j => decide (cm j = b)) 0 c then some (nI c, cm) else some (nI (c + 1), upd cm c b) := by
  have hg := gN0_big
  have cc : (nI c).toNatClampNeg = c := nI_clamp (by omega)
  unfold F_X0_note
  have e := note_loop (b := b) (cm := cm) hc (fun _ => if (80 : Int32) ≤ nI c then (some (nI c, cm)) else (if gvp (nI c) 80 then (some ((nI c + 1), (upd cm (nI c).toNatClampNeg b))) else none)) c 0 gN0 (by omega) (by omega)
  refine e.trans ?_
  rw [if_neg (show ¬ (80 : Int32) ≤ nI c from nI_ge (b := 80) (by omega) (by omega)), if_pos (show gvp (nI c) 80 from gvp_nI (by omega) (by omega)), nI_1, cc]
def fmm (f : Nat → Int32) (fo tu : Int32) (T : Nat) (fx fy : Nat → Int32) (x y : Int32) (k : Nat) : Nat := mean f fo tu T x y (fx k) (fy k) 0
section Fewest
variable {T P : Nat} {fo tu : Int32} {f pf g xs ys laws fx fy fan : Nat → Int32}
theorem dx_cls {fx : Nat → Int32} {i : Nat} (h : i < 80) : F_X1_dx fx (nI i) = some (fx i) := by
  have ci : (nI i).toNatClampNeg = i := nI_clamp (by omega)
  unfold F_X1_dx
  rw [if_neg (nI_neg i (by omega)), if_neg (show ¬ (80 : Int32) ≤ nI i from nI_ge (b := 80) (by omega) (by omega)), if_pos (gvp_nI h (by omega)), ci]
theorem dy_cls {fy : Nat → Int32} {i : Nat} (h : i < 80) : F_X1_dy fy (nI i) = some (fy i) := by
  have ci : (nI i).toNatClampNeg = i := nI_clamp (by omega)
  unfold F_X1_dy
  rw [if_neg (nI_neg i (by omega)), if_neg (show ¬ (80 : Int32) ≤ nI i from nI_ge (b := 80) (by omega) (by omega)), if_pos (gvp_nI h (by omega)), ci]
/-- the union of what may be used -/
def allU (mm : Nat → Nat) (S i A : Nat) : Prop := A < 1024 ∧ ∀ b, A.testBit b = true ↔ ∃ m, UM mm S i m ∧ m.testBit b = true
theorem collect_loop (h : SR T P fo tu f pf g xs ys laws) (hfr : FR fx fy fan) {x y : Int32} (hp : pt x y) {S : Nat} (hS : S < 1024) (kk : Int32 → Int32 → Int32 → (Nat → Int32) → Option (Int32 × Int32 × (Nat → Int32))) : ∀ (d i fu A c : Nat) (cm : Nat → Int32), i + d = 80 → d < fu → rowsU (fmm f fo tu T fx fy x y) S i c cm → allU (fmm f fo tu T fx fy x y) S i A →
    ∃ (A' c' : Nat) (cm' : Nat → Int32), rowsU (fmm f fo tu T fx fy x y) S 80 c' cm' ∧ allU (fmm f fo tu T fx fy x y) S 80 A' ∧ FL_X0_collect_11 (nI T) fo tu f fx fy (nI S) x y kk fu (nI A) (nI i) (nI c) cm = kk (nI A') (nI 80) (nI c') cm'
  | 0, i, fu + 1, A, c, cm, hi, _, hr, ha => by
    have e : i = 80 := by omega
    subst e
    refine ⟨A, c, cm, hr, ha, ?_⟩
    unfold FL_X0_collect_11
    rw [if_pos (by decide)]
  | d + 1, i, fu + 1, A, c, cm, hi, hfu, hr, ha => by
    have hm : fmm f fo tu T fx fy x y i < 1024 := mean_1024 h
    have step : FL_X0_collect_11 (nI T) fo tu f fx fy (nI S) x y kk (fu + 1) (nI A) (nI i) (nI c) cm = if nI (fmm f fo tu T fx fy x y i) = 0 then FL_X0_collect_11 (nI T) fo tu f fx fy (nI S) x y kk fu (nI A) (nI (i + 1)) (nI c) cm else (if (nI (fmm f fo tu T fx fy x y i) &&& (nI S ^^^ (-1))) = 0 then ((F_X0_note (nI c) cm (nI (fmm f fo tu T fx fy x y i))).bind fun r => FL_X0_collect_11 (nI T) fo tu f fx fy (nI S) x y kk fu (nI A ||| nI (fmm f fo tu T fx fy x y i)) (nI (i + 1)) r.1 r.2) else FL_X0_collect_11 (nI T) fo tu f fx fy (nI S) x y kk fu (nI A) (nI (i + 1)) (nI c) cm) := by
      rw [FL_X0_collect_11, if_neg (show ¬ (80 : Int32) ≤ nI i from nI_ge (b := 80) (by omega) (by omega)), dx_cls (by omega), dy_cls (by omega)]
      simp only [Option.bind_some]
      rw [metBy_cls h.2.2.1 h.1 hp (hfr i (by omega)).2.2 rg0]
      simp only [Option.bind_some]
      rw [narrowed_cls h.1 (mset_lt _ _ _ _ _ _ _ _)]
      simp only [Option.bind_some]
      rw [nI_1]
      rfl
    rw [step]
    generalize hmi : fmm f fo tu T fx fy x y i = mi at hm ⊢
    have ih := collect_loop h hfr hp hS kk d (i + 1) fu
    by_cases hz : mi = 0
    · rw [if_pos (by rw [hz]; rfl)]
      refine ih A c cm (by omega) (by omega) (rowsU_same hr (Or.inl (by rw [hmi]; intro q; exact q.1 hz))) ⟨ha.1, fun b => ?_⟩
      rw [ha.2]
      constructor
      · rintro ⟨m, h1, h2⟩; exact ⟨m, UM_succ.mpr (Or.inl h1), h2⟩
      · rintro ⟨m, h1, h2⟩
        rcases UM_succ.mp h1 with h1 | ⟨h1, h3, -⟩
        · exact ⟨m, h1, h2⟩
        · rw [hmi, hz] at h1
          exact absurd h1.symm h3
    · rw [if_neg (nI_ne0 (by omega) (by omega))]
      by_cases hsub : subs mi S
      · rw [if_pos ((nI_sub0 hm hS).mpr hsub), nI_or, note_cls (by have := hr.1; omega)]
        have hA' : allU (fmm f fo tu T fx fy x y) S (i + 1) (A ||| mi) := by
          refine ⟨Nat.or_lt_two_pow (n := 10) ha.1 hm, fun b => ?_⟩
          rw [Nat.testBit_or, Bool.or_eq_true, ha.2]
          constructor
          · rintro (⟨m, h1, h2⟩ | h1)
            · exact ⟨m, UM_succ.mpr (Or.inl h1), h2⟩
            · exact ⟨mi, UM_succ.mpr (Or.inr ⟨hmi, hz, hsub⟩), h1⟩
          · rintro ⟨m, h1, h2⟩
            rcases UM_succ.mp h1 with h1 | ⟨h1, -⟩
            · exact Or.inl ⟨m, h1, h2⟩
            · rw [hmi] at h1
              rw [h1]
              exact Or.inr h2
        by_cases hex : anyF (fun j => decide (cm j = nI mi)) 0 c = true
        · rw [if_pos hex]
          simp only [Option.bind_some]
          refine ih _ _ _ (by omega) (by omega) (rowsU_same hr (Or.inr ?_)) hA'
          obtain ⟨j, -, hj, e⟩ := anyF_iff.mp hex
          have e := of_decide_eq_true e
          obtain ⟨m, e2, hm2⟩ := hr.2.1 j (by omega)
          rw [e] at e2
          have := (nI_eq (by omega) (by have := UM_lt hS hm2; omega)).mp e2
          rw [hmi, this]
          exact hm2
        · rw [if_neg hex]
          simp only [Option.bind_some]
          have hra := rowsU_add hr (by rw [hmi]; exact ⟨hz, hsub⟩)
          rw [hmi] at hra
          exact ih _ _ _ (by omega) (by omega) hra hA'
      · rw [if_neg (by rw [nI_sub0 hm hS]; exact hsub)]
        refine ih A c cm (by omega) (by omega) (rowsU_same hr (Or.inl (by rw [hmi]; intro q; exact hsub q.2))) ⟨ha.1, fun b => ?_⟩
        rw [ha.2]
        constructor
        · rintro ⟨m, h1, h2⟩; exact ⟨m, UM_succ.mpr (Or.inl h1), h2⟩
        · rintro ⟨m, h1, h2⟩
          rcases UM_succ.mp h1 with h1 | ⟨h1, -, h3⟩
          · exact ⟨m, h1, h2⟩
          · rw [hmi] at h1
            rw [h1] at hsub
            exact absurd h3 hsub
theorem collect_cls (h : SR T P fo tu f pf g xs ys laws) (hfr : FR fx fy fan) {x y : Int32} (hp : pt x y) {S : Nat} (hS : S < 1024) (cm : Nat → Int32) : ∃ (A c : Nat) (cm' : Nat → Int32), rowsU (fmm f fo tu T fx fy x y) S 80 c cm' ∧ allU (fmm f fo tu T fx fy x y) S 80 A ∧ F_X0_collect cm (nI T) fo tu f fx fy (nI S) x y = some (gB (decide (A = S)), nI c, cm') := by
  have hg := gN0_big
  obtain ⟨A, c, cm', h1, h2, h3⟩ := collect_loop h hfr hp hS (fun l6_11 _ w0_1_11 a1_11 => if l6_11 = nI S then (some (1, w0_1_11, a1_11)) else (some (0, w0_1_11, a1_11))) 80 0 gN0 0 0 cm (by omega) (by omega) ⟨Nat.le_refl _, fun j hj => by omega, fun m hm => by obtain ⟨k, hk, -⟩ := hm; omega⟩ ⟨by decide, fun b => by
    constructor
    · intro hb; simp at hb
    · rintro ⟨m, ⟨k, hk, -⟩, -⟩; omega⟩
  refine ⟨A, c, cm', h1, h2, ?_⟩
  unfold F_X0_collect
  refine h3.trans ?_
  have hA := h2.1
  by_cases e : A = S
  · rw [if_pos (by rw [e])]
    simp [e, gB]
  · rw [if_neg (by rw [nI_eq (by omega) (by omega)]; exact e)]
    simp [e, gB]
end Fewest
