/-! Sheets: drop, sheet, item. -/
def ufn {α : Type} (f : Nat → α) (s : Nat) (v : α) : Nat → α := fun t => if t = s then v else f t
theorem ufn_at {α : Type} (f : Nat → α) (s : Nat) (v : α) : ufn f s v s = v := if_pos rfl
theorem ufn_ne {α : Type} (f : Nat → α) {s t : Nat} (v : α) (h : t ≠ s) : ufn f s v t = f t := if_neg h
theorem ufn_self {α : Type} (f : Nat → α) (s : Nat) : ufn f s (f s) = f := by
  funext t
  by_cases h : t = s
  · rw [h, ufn_at]
  · rw [ufn_ne _ _ h]
def KR (ln sn : Nat → Int32) (it : Nat → Nat → Int64) (lanes sizes : Nat → Int32) (items : Nat → Int64) : Prop := ∀ s, s < 4 → lanes s = ln s ∧ Rg (ln s) (-1) 2 ∧ Rg (sn s) 0 24 ∧ (0 ≤ (ln s).toInt → sizes s = sn s) ∧ ∀ i, i < 24 → it s i = items (24 * s + i)
theorem KR.set {ln sn : Nat → Int32} {it : Nat → Nat → Int64} {lanes sizes : Nat → Int32} {items : Nat → Int64} (h : KR ln sn it lanes sizes items) {s : Nat} {la k : Int32} {ni items' : Nat → Int64} {sizes' : Nat → Int32} (hla : Rg la (-1) 2) (hk : Rg k 0 24) (hz : 0 ≤ la.toInt → sizes' s = k) (hzo : ∀ t, t ≠ s → sizes' t = sizes t) (hi : ∀ i, i < 24 → ni i = items' (24 * s + i)) (ho : ∀ x, (x < 24 * s ∨ 24 * s + 24 ≤ x) → items' x = items x) : KR (ufn ln s la) (ufn sn s k) (ufn it s ni) (upd lanes s la) sizes' items' := by
  intro t ht
  obtain ⟨h1, h2, h3, h4, h5⟩ := h t ht
  by_cases e : t = s
  · subst e
    rw [ufn_at, ufn_at, ufn_at, upd_self]
    exact ⟨rfl, hla, hk, hz, hi⟩
  · rw [ufn_ne _ _ e, ufn_ne _ _ e, ufn_ne _ _ e, upd_ne _ _ e, hzo t e]
    refine ⟨h1, h2, h3, h4, fun i hi2 => ?_⟩
    rw [h5 i hi2, ho]
    omega
theorem KR.its {ln sn : Nat → Int32} {it : Nat → Nat → Int64} {lanes sizes : Nat → Int32} {items : Nat → Int64} (h : KR ln sn it lanes sizes items) {s : Nat} {ni items' : Nat → Int64} (hi : ∀ i, i < 24 → ni i = items' (24 * s + i)) (ho : ∀ x, (x < 24 * s ∨ 24 * s + 24 ≤ x) → items' x = items x) : KR ln sn (ufn it s ni) lanes sizes items' := by
  intro t ht
  obtain ⟨h1, h2, h3, h4, h5⟩ := h t ht
  by_cases e : t = s
  · subst e
    rw [ufn_at]
    exact ⟨h1, h2, h3, h4, hi⟩
  · rw [ufn_ne _ _ e]
    refine ⟨h1, h2, h3, h4, fun i hi2 => ?_⟩
    rw [h5 i hi2, ho]
    omega
theorem i0 : (0 : Int32).toInt = 0 := rfl
def rfz (ln sn al i k : Int32) : Int32 := if ln = -1 then -11 else if ln = al then (if 0 ≤ k.toInt ∧ 0 ≤ i.toInt ∧ i.toInt + k.toInt ≤ sn.toInt then 0 else -13) else -12
theorem rfz_cls {ln sn al i k : Int32} (hn : Rg sn 0 24) : F_X6_refusal ln sn al i k = some (rfz ln sn al i k) := by
  unfold F_X6_refusal F_X6_isMissing rfz
  have hk := fb_rng k
  by_cases h1 : ln = -1
  · rw [if_pos h1, if_pos h1]
    rfl
  · rw [if_neg h1, if_neg h1]
    simp only [Option.bind_some, if_true]
    by_cases h2 : ln = al
    · rw [if_pos h2, if_pos h2]
      by_cases h3 : k.toInt < 0
      · rw [if_pos (by rw [gI_lt, i0]; exact h3), if_neg (by omega)]
      · rw [if_neg (by rw [gI_lt, i0]; exact h3)]
        by_cases h4 : i.toInt < 0
        · rw [if_pos (by rw [gI_lt, i0]; exact h4), if_neg (by omega)]
        · rw [if_neg (by rw [gI_lt, i0]; exact h4)]
          have e : (sn - k).toInt = sn.toInt - k.toInt := fb_subI (by omega) (by omega)
          by_cases h5 : i.toInt + k.toInt ≤ sn.toInt
          · rw [if_pos (by rw [gI_le, e]; omega), if_pos (by omega)]
          · rw [if_neg (by rw [gI_le, e]; omega), if_neg (by omega)]
    · rw [if_neg h2, if_neg h2]
theorem lane_m {x : Int32} (h : Rg x (-1) 2) : ¬ x = -1 ↔ 0 ≤ x := by
  rw [gI_eq, gI_le, i0]
  have : (-1 : Int32).toInt = -1 := rfl
  omega
theorem i64_add32 (i k : Int32) : (i.toInt64 + k.toInt64).toInt = i.toInt + k.toInt := by
  have h1 := fb_rng i
  have h2 := fb_rng k
  rw [fb_addL] <;> rw [i64_of, i64_of] <;> omega
theorem gvp4 {s : Nat} (hs : s < 4) : gvp (nI s) 4 := gvp_nI hs (by omega)
section Sheets
variable {ln sn : Nat → Int32} {it : Nat → Nat → Int64} {lanes sizes : Nat → Int32} {items : Nat → Int64}
theorem finds_mod (h : KR ln sn it lanes sizes items) {s : Nat} (hs : s < 4) {la i k : Int32} (hk : 0 ≤ k.toInt) : F_X9_finds lanes sizes (nI s) la i k = some (rfz (ln s) (sn s) la i k) := by
  obtain ⟨h1, h2, h3, h4, -⟩ := h s hs
  have cs : (nI s).toNatClampNeg = s := nI_clamp (by omega)
  unfold F_X9_finds rfz
  simp only [if_pos (gvp4 hs), cs, h1]
  by_cases e1 : ln s = -1
  · rw [if_neg (by rw [← lane_m h2]; exact fun e => e e1), if_pos e1]
  · have e2 := (lane_m h2).mp e1
    rw [if_pos e2, if_neg e1, h4 (by rw [gI_le, i0] at e2; exact e2)]
    by_cases e3 : ln s = la
    · rw [if_pos e3, if_pos e3]
      by_cases e4 : i.toInt < 0
      · rw [if_pos (by rw [gI_lt, i0]; exact e4), if_neg (by omega)]
      · rw [if_neg (by rw [gI_lt, i0]; exact e4)]
        have key : (lg_cmp (i.toInt64 + k.toInt64) (sn s).toInt64 ≤ 0) ↔ i.toInt + k.toInt ≤ (sn s).toInt := by
          rw [← Int32.not_lt, lg_cmp_gt, I64_lt, i64_add32, i64_of]
          omega
        by_cases e5 : i.toInt + k.toInt ≤ (sn s).toInt
        · rw [if_pos (key.mpr e5), if_pos (by omega)]
        · rw [if_neg (by rw [key]; exact e5), if_neg (by omega)]
    · rw [if_neg e3, if_neg e3]
theorem isSheet_mod (s : Int32) : F_X9_isSheet s = some (gB (inb s.toInt 0 3)) := by
  unfold F_X9_isSheet
  rw [in_mod32]
  simp only [Option.bind_some, one_bit]
  rfl
theorem shn {sh : Int32} (h : inb sh.toInt 0 3 = false) : F_X8_sheetOf_n sh = some () ∧ ¬ sh = 0 ∧ ¬ sh = 1 ∧ ¬ sh = 2 ∧ ¬ sh = 3 := by
  have h' := inb_f.mp h
  have e1 : (1 : Int32).toInt = 1 := rfl
  have e2 : (2 : Int32).toInt = 2 := rfl
  have e3 : (3 : Int32).toInt = 3 := rfl
  have e4 : (4 : Int32).toInt = 4 := rfl
  refine ⟨?_, ?_, ?_, ?_, ?_⟩
  · unfold F_X8_sheetOf_n
    by_cases h1 : sh.toInt < 0
    · rw [if_pos (by rw [gI_lt, i0]; exact h1)]
    · rw [if_neg (by rw [gI_lt, i0]; exact h1), if_pos (by rw [gI_le, e4]; omega)]
  all_goals
    rw [gI_eq]
    first
    | rw [i0]; omega
    | rw [e1]; omega
    | rw [e2]; omega
    | rw [e3]; omega
theorem k00 : (nI 0 = (0 : Int32)) = True := eq_true rfl
theorem k01 : (nI 0 = (1 : Int32)) = False := eq_false (by decide)
theorem k02 : (nI 0 = (2 : Int32)) = False := eq_false (by decide)
theorem k03 : (nI 0 = (3 : Int32)) = False := eq_false (by decide)
theorem k10 : (nI 1 = (0 : Int32)) = False := eq_false (by decide)
theorem k11 : (nI 1 = (1 : Int32)) = True := eq_true rfl
theorem k12 : (nI 1 = (2 : Int32)) = False := eq_false (by decide)
theorem k13 : (nI 1 = (3 : Int32)) = False := eq_false (by decide)
theorem k20 : (nI 2 = (0 : Int32)) = False := eq_false (by decide)
theorem k21 : (nI 2 = (1 : Int32)) = False := eq_false (by decide)
theorem k22 : (nI 2 = (2 : Int32)) = True := eq_true rfl
theorem k23 : (nI 2 = (3 : Int32)) = False := eq_false (by decide)
theorem k30 : (nI 3 = (0 : Int32)) = False := eq_false (by decide)
theorem k31 : (nI 3 = (1 : Int32)) = False := eq_false (by decide)
theorem k32 : (nI 3 = (2 : Int32)) = False := eq_false (by decide)
theorem k33 : (nI 3 = (3 : Int32)) = True := eq_true rfl
theorem four {s : Nat} (h : s < 4) : s = 0 ∨ s = 1 ∨ s = 2 ∨ s = 3 := by omega
theorem drop_cls {s : Nat} (hs : s < 4) : F_X8_drop (ln 0) (sn 0) (ln 1) (sn 1) (ln 2) (sn 2) (ln 3) (sn 3) (nI s) = if ln s = -1 then some (-11, ln 0, sn 0, ln 1, sn 1, ln 2, sn 2, ln 3, sn 3) else some (sn s, ufn ln s (-1) 0, ufn sn s 0 0, ufn ln s (-1) 1, ufn sn s 0 1, ufn ln s (-1) 2, ufn sn s 0 2, ufn ln s (-1) 3, ufn sn s 0 3) := by
  unfold F_X8_drop
  rcases four hs with rfl | rfl | rfl | rfl
  all_goals
    simp only [k00, k01, k02, k03, k10, k11, k12, k13, k20, k21, k22, k23, k30, k31, k32, k33, if_true, if_false, F_X8_sheetOf_0, F_X8_sheetOf_1, F_X8_sheetOf_2, F_X8_sheetOf_3, Option.bind_some, F_X6_isMissing, F_X6_size, F_X6_lose]
    first
    | rcases Decidable.em (ln 0 = -1) with h1 | h1 <;> simp only [h1, if_true, if_false, Option.bind_some] <;> rfl
    | rcases Decidable.em (ln 1 = -1) with h1 | h1 <;> simp only [h1, if_true, if_false, Option.bind_some] <;> rfl
    | rcases Decidable.em (ln 2 = -1) with h1 | h1 <;> simp only [h1, if_true, if_false, Option.bind_some] <;> rfl
    | rcases Decidable.em (ln 3 = -1) with h1 | h1 <;> simp only [h1, if_true, if_false, Option.bind_some] <;> rfl
theorem drop_bad {sh : Int32} (h : inb sh.toInt 0 3 = false) : F_X8_drop (ln 0) (sn 0) (ln 1) (sn 1) (ln 2) (sn 2) (ln 3) (sn 3) sh = some (-1, ln 0, sn 0, ln 1, sn 1, ln 2, sn 2, ln 3, sn 3) := by
  obtain ⟨h1, h2, h3, h4, h5⟩ := shn h
  unfold F_X8_drop
  rw [if_neg h2, if_neg h3, if_neg h4, if_neg h5, h1]
  rfl
theorem eq_drop (h : KR ln sn it lanes sizes items) (sh : Int32) : ∃ (r : Int32) (ln' sn' lanes' : Nat → Int32), F_X8_drop (ln 0) (sn 0) (ln 1) (sn 1) (ln 2) (sn 2) (ln 3) (sn 3) sh = some (r, ln' 0, sn' 0, ln' 1, sn' 1, ln' 2, sn' 2, ln' 3, sn' 3) ∧ F_X9_drop lanes sizes sh = some (r, lanes') ∧ KR ln' sn' it lanes' sizes items := by
  unfold F_X9_drop
  rw [isSheet_mod]
  simp only [Option.bind_some, gB_if]
  cases h1 : inb sh.toInt 0 3
  · exact ⟨-1, ln, sn, lanes, drop_bad h1, rfl, h⟩
  · obtain ⟨s, hs, rfl⟩ := inb_nI (n := 4) h1
    obtain ⟨q1, q2, q3, q4, q5⟩ := h s hs
    have cs : (nI s).toNatClampNeg = s := nI_clamp (by omega)
    rw [drop_cls hs]
    simp only [if_true, if_pos (gvp4 hs), cs, q1]
    by_cases e : ln s = -1
    · rw [if_pos e, if_neg (by rw [← lane_m q2]; exact fun e2 => e2 e)]
      exact ⟨-11, ln, sn, lanes, rfl, rfl, h⟩
    · have e2 := (lane_m q2).mp e
      rw [if_neg e, if_pos e2, q4 (by rw [gI_le, i0] at e2; exact e2)]
      refine ⟨sn s, ufn ln s (-1), ufn sn s 0, upd lanes s (-1), rfl, rfl, ?_⟩
      have := h.set (s := s) (la := -1) (k := 0) (ni := it s) (items' := items) (sizes' := sizes) ⟨by decide, by decide⟩ ⟨by decide, by decide⟩ (fun e => absurd e (by decide)) (fun _ _ => rfl) q5 (fun _ _ => rfl)
      rwa [ufn_self] at this
/-- a row of longs, emptied -/
def zrL (f : Nat → Int64) (a w : Nat) : Nat → Int64 := fun i => if a ≤ i ∧ i < a + w then 0 else f i
theorem zrL_step (f : Nat → Int64) (a c : Nat) : vp_updL (zrL f a c) (a + c) 0 = zrL f a (c + 1) := by
  funext i
  unfold vp_updL zrL
  by_cases e : i = a + c
  · rw [if_pos e, if_pos (by omega)]
  · rw [if_neg e]
    by_cases h : a ≤ i ∧ i < a + c
    · rw [if_pos h, if_pos (by omega)]
    · rw [if_neg h, if_neg (by omega)]
theorem zrL_0 (f : Nat → Int64) (a : Nat) : zrL f a 0 = f := by
  funext i
  unfold zrL
  rw [if_neg (by omega)]
theorem renew_loop {f : Nat → Int64} (kk : Int32 → (Nat → Int64) → Option (Int32 × Int32 × (Nat → Int64))) : ∀ (d c fu : Nat), c + d = 24 → d < fu → FL_X6_renew_12 kk fu (nI c) (zrL f 0 c) = kk (nI 24) (zrL f 0 24)
  | 0, c, fu + 1, hc, _ => by
    have e : c = 24 := by omega
    subst e
    unfold FL_X6_renew_12
    rw [if_pos (show (24 : Int32) ≤ nI 24 from nI_le (Nat.le_refl _) (by omega))]
  | d + 1, c, fu + 1, hc, hfu => by
    have ih := renew_loop (f := f) kk d (c + 1) fu (by omega) (by omega)
    have ce : (nI c).toNatClampNeg = c := nI_clamp (by omega)
    unfold FL_X6_renew_12
    simp only [if_neg (show ¬ (24 : Int32) ≤ nI c from nI_ge (b := 24) (by omega) (by omega)), if_pos (show gvp (nI c) 24 from gvp_nI (by omega) (by omega)), ce]
    have e := zrL_step f 0 c
    rw [Nat.zero_add] at e
    rw [e, nI_1]
    exact ih
theorem renew_cls {f : Nat → Int64} {la k : Int32} : F_X6_renew f la k = some (la, k, zrL f 0 24) := by
  unfold F_X6_renew
  have e := renew_loop (f := f) (fun _ a1_12 => some (la, k, a1_12)) 24 0 gN0 (by omega) (by have := gN0_big; omega)
  rw [zrL_0] at e
  exact e
theorem wipe_loop {f : Nat → Int64} {s : Nat} (hs : s < 4) (kk : Int32 → (Nat → Int64) → Option (Int32 × (Nat → Int32) × (Nat → Int32) × (Nat → Int64))) : ∀ (d c fu : Nat), c + d = 24 → d < fu → FL_X9_sheet_46 (nI s) kk fu (nI c) (zrL f (24 * s) c) = kk (nI 24) (zrL f (24 * s) 24)
  | 0, c, fu + 1, hc, _ => by
    have e : c = 24 := by omega
    subst e
    unfold FL_X9_sheet_46
    rw [if_pos (show (24 : Int32) ≤ nI 24 from nI_le (Nat.le_refl _) (by omega))]
  | d + 1, c, fu + 1, hc, hfu => by
    have ih := wipe_loop (f := f) hs kk d (c + 1) fu (by omega) (by omega)
    have e0 : 24 * nI s + nI c = nI (24 * s + c) := by
      rw [show (24 : Int32) * nI s = nI (24 * s) from pk_mul 24 s, nI_add]
    have ce : (nI (24 * s + c)).toNatClampNeg = 24 * s + c := nI_clamp (by omega)
    unfold FL_X9_sheet_46
    simp only [if_neg (show ¬ (24 : Int32) ≤ nI c from nI_ge (b := 24) (by omega) (by omega)), e0, if_pos (show gvp (nI (24 * s + c)) 96 from gvp_nI (by omega) (by omega)), ce]
    rw [zrL_step, nI_1]
    exact ih
theorem sheet_cls {s : Nat} (hs : s < 4) (la k : Int32) : F_X8_sheet (ln 0) (sn 0) (it 0) (ln 1) (sn 1) (it 1) (ln 2) (sn 2) (it 2) (ln 3) (sn 3) (it 3) (nI s) la k = if inb la.toInt 0 2 = true then (if k ≤ 24 then (if 0 ≤ k then some (k, ufn ln s la 0, ufn sn s k 0, ufn it s (zrL (it s) 0 24) 0, ufn ln s la 1, ufn sn s k 1, ufn it s (zrL (it s) 0 24) 1, ufn ln s la 2, ufn sn s k 2, ufn it s (zrL (it s) 0 24) 2, ufn ln s la 3, ufn sn s k 3, ufn it s (zrL (it s) 0 24) 3) else some (-14, ln 0, sn 0, it 0, ln 1, sn 1, it 1, ln 2, sn 2, it 2, ln 3, sn 3, it 3)) else some (-1, ln 0, sn 0, it 0, ln 1, sn 1, it 1, ln 2, sn 2, it 2, ln 3, sn 3, it 3)) else some (-1, ln 0, sn 0, it 0, ln 1, sn 1, it 1, ln 2, sn 2, it 2, ln 3, sn 3, it 3) := by
  unfold F_X8_sheet
  rw [isLane_cls]
  rcases four hs with rfl | rfl | rfl | rfl
  all_goals
    simp only [k00, k01, k02, k03, k10, k11, k12, k13, k20, k21, k22, k23, k30, k31, k32, k33, if_true, if_false, F_X8_sheetOf_0, F_X8_sheetOf_1, F_X8_sheetOf_2, F_X8_sheetOf_3, Option.bind_some, gB_if, renew_cls]
    rfl
theorem sheet_bad {sh : Int32} (h : inb sh.toInt 0 3 = false) (la k : Int32) : F_X8_sheet (ln 0) (sn 0) (it 0) (ln 1) (sn 1) (it 1) (ln 2) (sn 2) (it 2) (ln 3) (sn 3) (it 3) sh la k = some (-1, ln 0, sn 0, it 0, ln 1, sn 1, it 1, ln 2, sn 2, it 2, ln 3, sn 3, it 3) := by
  obtain ⟨h1, h2, h3, h4, h5⟩ := shn h
  unfold F_X8_sheet
  rw [if_neg h2, if_neg h3, if_neg h4, if_neg h5, h1]
  rfl
theorem eq_sheet (h : KR ln sn it lanes sizes items) (sh la k : Int32) : ∃ (r : Int32) (ln' sn' : Nat → Int32) (it' : Nat → Nat → Int64) (lanes' sizes' : Nat → Int32) (items' : Nat → Int64), F_X8_sheet (ln 0) (sn 0) (it 0) (ln 1) (sn 1) (it 1) (ln 2) (sn 2) (it 2) (ln 3) (sn 3) (it 3) sh la k = some (r, ln' 0, sn' 0, it' 0, ln' 1, sn' 1, it' 1, ln' 2, sn' 2, it' 2, ln' 3, sn' 3, it' 3) ∧ F_X9_sheet lanes sizes items sh la k = some (r, lanes', sizes', items') ∧ KR ln' sn' it' lanes' sizes' items' := by
  unfold F_X9_sheet
  rw [isSheet_mod, isLane_mod]
  simp only [Option.bind_some, gB_if]
  cases h1 : inb sh.toInt 0 3
  · exact ⟨-1, ln, sn, it, lanes, sizes, items, sheet_bad h1 _ _, rfl, h⟩
  · obtain ⟨s, hs, rfl⟩ := inb_nI (n := 4) h1
    have cs : (nI s).toNatClampNeg = s := nI_clamp (by omega)
    rw [sheet_cls hs]
    simp only [if_true, if_pos (gvp4 hs), cs]
    cases h2 : inb la.toInt 0 2
    · exact ⟨-1, ln, sn, it, lanes, sizes, items, rfl, rfl, h⟩
    · simp only [if_true]
      by_cases h3 : k ≤ 24
      · simp only [if_pos h3]
        by_cases h4 : 0 ≤ k
        · simp only [if_pos h4]
          have e := wipe_loop (f := items) hs (fun _ a20_46 => some (k, (upd lanes s la), (upd sizes s k), a20_46)) 24 0 gN0 (by omega) (by have := gN0_big; omega)
          rw [zrL_0] at e
          refine ⟨k, ufn ln s la, ufn sn s k, ufn it s (zrL (it s) 0 24), upd lanes s la, upd sizes s k, zrL items (24 * s) 24, rfl, e, ?_⟩
          have l1 := inb_t.mp h2
          rw [gI_le] at h3 h4
          refine h.set ⟨by omega, by omega⟩ ⟨h4, h3⟩ (fun _ => upd_self _ _ _) (fun t ht => upd_ne _ _ ht) (fun i hi => ?_) (fun x hx => ?_)
          · unfold zrL
            rw [if_pos (by omega), if_pos (by omega)]
          · unfold zrL
            rw [if_neg (by omega)]
        · simp only [if_neg h4]
          exact ⟨-14, ln, sn, it, lanes, sizes, items, rfl, rfl, h⟩
      · simp only [if_neg h3]
        exact ⟨-1, ln, sn, it, lanes, sizes, items, rfl, rfl, h⟩
def laned (la : Int32) (v : Int64) : Int64 := if la = 0 then v.toInt32.toInt16.toInt32.toInt64 else if la = 1 then v.toInt32.toInt64 else v
theorem put6_cls {l sz : Int32} {f : Nat → Int64} {i : Nat} {v : Int64} (hz : Rg sz 0 24) (hi : (i : Int) < sz.toInt) : F_X6_put l sz f (nI i) v = some (vp_updL f i (laned l v)) := by
  have h24 : i < 24 := by omega
  have ce : (nI i).toNatClampNeg = i := nI_clamp (by omega)
  unfold F_X6_put laned
  simp only [if_neg (nI_neg i (by omega)), if_neg (show ¬ sz ≤ nI i by rw [gI_le, nI_toInt (by omega)]; omega), if_neg (show ¬ (24 : Int32) ≤ nI i from nI_ge (b := 24) h24 (by omega)), if_pos (show gvp (nI i) 24 from gvp_nI h24 (by omega)), ce]
  by_cases e1 : l = 0
  · simp only [if_pos e1]
  · simp only [if_neg e1]
    by_cases e2 : l = 1
    · simp only [if_pos e2]
    · simp only [if_neg e2]
theorem item_cls {s : Nat} (hs : s < 4) (hr : Rg (sn s) 0 24) (la i : Int32) (v : Int64) : F_X8_item (ln 0) (sn 0) (it 0) (ln 1) (sn 1) (it 1) (ln 2) (sn 2) (it 2) (ln 3) (sn 3) (it 3) (nI s) la i v = if inb la.toInt 0 2 = true then (if 0 ≤ rfz (ln s) (sn s) la i 1 then (F_X6_put (ln s) (sn s) (it s) i v).bind (fun r => some (1, ufn it s r 0, ufn it s r 1, ufn it s r 2, ufn it s r 3)) else some (rfz (ln s) (sn s) la i 1, it 0, it 1, it 2, it 3)) else some (-1, it 0, it 1, it 2, it 3) := by
  unfold F_X8_item
  rw [isLane_cls]
  rcases four hs with rfl | rfl | rfl | rfl
  all_goals
    simp only [k00, k01, k02, k03, k10, k11, k12, k13, k20, k21, k22, k23, k30, k31, k32, k33, if_true, if_false, F_X8_sheetOf_0, F_X8_sheetOf_1, F_X8_sheetOf_2, F_X8_sheetOf_3, Option.bind_some, gB_if, rfz_cls hr]
    rfl
theorem item_bad {sh : Int32} (h : inb sh.toInt 0 3 = false) (la i : Int32) (v : Int64) : F_X8_item (ln 0) (sn 0) (it 0) (ln 1) (sn 1) (it 1) (ln 2) (sn 2) (it 2) (ln 3) (sn 3) (it 3) sh la i v = some (-1, it 0, it 1, it 2, it 3) := by
  obtain ⟨h1, h2, h3, h4, h5⟩ := shn h
  unfold F_X8_item
  rw [if_neg h2, if_neg h3, if_neg h4, if_neg h5, h1]
  rfl
theorem rfz_ok {l sz al i k : Int32} (h : 0 ≤ rfz l sz al i k) : l = al ∧ ¬ l = -1 ∧ 0 ≤ k.toInt ∧ 0 ≤ i.toInt ∧ i.toInt + k.toInt ≤ sz.toInt := by
  unfold rfz at h
  by_cases h1 : l = -1
  · rw [if_pos h1] at h
    exact absurd h (by decide)
  · rw [if_neg h1] at h
    by_cases h2 : l = al
    · rw [if_pos h2] at h
      by_cases h3 : 0 ≤ k.toInt ∧ 0 ≤ i.toInt ∧ i.toInt + k.toInt ≤ sz.toInt
      · exact ⟨h2, h1, h3⟩
      · rw [if_neg h3] at h
        exact absurd h (by decide)
    · rw [if_neg h2] at h
      exact absurd h (by decide)
theorem nonneg_nI {i : Int32} (h : 0 ≤ i.toInt) : ∃ n : Nat, n < 2 ^ 31 ∧ i = nI n ∧ i.toInt = n := by
  have hb := fb_rng i
  have e : (nI i.toInt.toNat).toInt = (i.toInt.toNat : Int) := nI_toInt (by omega)
  refine ⟨i.toInt.toNat, by omega, (gI_eq _ _).mpr ?_, by omega⟩
  rw [e]
  omega
theorem eq_item (h : KR ln sn it lanes sizes items) (sh la i : Int32) (v : Int64) : ∃ (r : Int32) (it' : Nat → Nat → Int64) (items' : Nat → Int64), F_X8_item (ln 0) (sn 0) (it 0) (ln 1) (sn 1) (it 1) (ln 2) (sn 2) (it 2) (ln 3) (sn 3) (it 3) sh la i v = some (r, it' 0, it' 1, it' 2, it' 3) ∧ F_X9_item lanes sizes items sh la i v = some (r, items') ∧ KR ln sn it' lanes sizes items' := by
  unfold F_X9_item
  rw [isSheet_mod, isLane_mod]
  simp only [Option.bind_some, gB_if]
  cases h1 : inb sh.toInt 0 3
  · exact ⟨-1, it, items, item_bad h1 _ _ _, rfl, h⟩
  · obtain ⟨s, hs, rfl⟩ := inb_nI (n := 4) h1
    obtain ⟨q1, q2, q3, q4, q5⟩ := h s hs
    rw [item_cls hs q3, finds_mod h hs (by decide)]
    simp only [if_true, Option.bind_some]
    cases h2 : inb la.toInt 0 2
    · exact ⟨-1, it, items, rfl, rfl, h⟩
    · simp only [if_true]
      by_cases h3 : 0 ≤ rfz (ln s) (sn s) la i 1
      · simp only [if_pos h3]
        obtain ⟨r1, r2, r3, r4, r5⟩ := rfz_ok h3
        have o1 : (1 : Int32).toInt = 1 := rfl
        rw [o1] at r5
        obtain ⟨n, hn, rfl, en⟩ := nonneg_nI r4
        have h24 : n < 24 := by omega
        have e0 : 24 * nI s + nI n = nI (24 * s + n) := by
          rw [show (24 : Int32) * nI s = nI (24 * s) from pk_mul 24 s, nI_add]
        have ce : (nI (24 * s + n)).toNatClampNeg = 24 * s + n := nI_clamp (by omega)
        rw [put6_cls q3 (by omega)]
        simp only [e0, ce, if_pos (show gvp (nI (24 * s + n)) 96 from gvp_nI (by omega) (by omega)), Option.bind_some]
        refine ⟨1, ufn it s (vp_updL (it s) n (laned la v)), vp_updL items (24 * s + n) (laned la v), by rw [r1], ?_, ?_⟩
        · unfold laned
          by_cases e1 : la = 0
          · simp only [if_pos e1]
          · simp only [if_neg e1]
            by_cases e2 : la = 1
            · simp only [if_pos e2]
            · simp only [if_neg e2]
        · refine h.its (fun i hi => ?_) (fun x hx => ?_)
          · unfold vp_updL
            by_cases e : i = n
            · rw [if_pos e, if_pos (by omega)]
            · rw [if_neg e, if_neg (by omega)]
              exact q5 i hi
          · unfold vp_updL
            rw [if_neg (by omega)]
      · simp only [if_neg h3]
        exact ⟨_, it, items, rfl, rfl, h⟩
end Sheets
