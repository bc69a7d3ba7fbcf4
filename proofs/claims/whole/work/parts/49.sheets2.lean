/-! Sheets: copy, clears. -/
section Sheets2
variable {ln sn : Nat → Int32} {it : Nat → Nat → Int64} {lanes sizes : Nat → Int32} {items moved : Nat → Int64}
noncomputable def cpG (ln sn : Nat → Int32) (it : Nat → Nat → Int64) (a b : Nat) (i j k : Int32) : Option (Int32 × (Nat → Int64) × (Nat → Int64) × (Nat → Int64) × (Nat → Int64)) :=
  (F_X6_isMissing (ln a)).bind fun r5 => if r5 = 0 then ((F_X6_isMissing (ln b)).bind fun r8 => if r8 = 0 then ((F_X6_lane (ln a)).bind fun r11 => (F_X6_refusal (ln b) (sn b) r11 j k).bind fun r13 => if 0 ≤ r13 then ((F_X6_lane (ln a)).bind fun r16 => (F_X6_refusal (ln a) (sn a) r16 i k).bind fun r18 => if 0 ≤ r18 then ((if a = b then F_X6_takeItems_s (ln a) (sn a) (it a) i j k else F_X6_takeItems_o (ln b) (sn b) (it b) (ln a) (sn a) (it a) i j k).bind fun r21 => some (k, ufn it b r21 0, ufn it b r21 1, ufn it b r21 2, ufn it b r21 3)) else (some (r18, it 0, it 1, it 2, it 3))) else (some (r13, it 0, it 1, it 2, it 3))) else (some (-11, it 0, it 1, it 2, it 3))) else (some (-11, it 0, it 1, it 2, it 3))
set_option maxHeartbeats 4000000 in
theorem copy_cls {a b : Nat} (ha : a < 4) (hb : b < 4) (i j k : Int32) : F_X8_copy (ln 0) (sn 0) (it 0) (ln 1) (sn 1) (it 1) (ln 2) (sn 2) (it 2) (ln 3) (sn 3) (it 3) (nI a) i (nI b) j k = cpG ln sn it a b i j k := by
  unfold F_X8_copy
  rcases four ha with rfl | rfl | rfl | rfl
  all_goals
    simp only [k00, k01, k02, k03, k10, k11, k12, k13, k20, k21, k22, k23, k30, k31, k32, k33, if_true, if_false, F_X8_sheetOf_0, F_X8_sheetOf_1, F_X8_sheetOf_2, F_X8_sheetOf_3, Option.bind_some]
    rcases four hb with rfl | rfl | rfl | rfl
    all_goals
      simp only [k00, k01, k02, k03, k10, k11, k12, k13, k20, k21, k22, k23, k30, k31, k32, k33, if_true, if_false, Option.bind_some]
      rfl
theorem copy_bad1 {fr to i j k : Int32} (h : inb fr.toInt 0 3 = false) : F_X8_copy (ln 0) (sn 0) (it 0) (ln 1) (sn 1) (it 1) (ln 2) (sn 2) (it 2) (ln 3) (sn 3) (it 3) fr i to j k = some (-1, it 0, it 1, it 2, it 3) := by
  obtain ⟨h1, h2, h3, h4, h5⟩ := shn h
  unfold F_X8_copy
  rw [if_neg h2, if_neg h3, if_neg h4, if_neg h5, h1]
  simp only [Option.bind_some]
  cases e : inb to.toInt 0 3
  · obtain ⟨g1, g2, g3, g4, g5⟩ := shn e
    rw [if_neg g2, if_neg g3, if_neg g4, if_neg g5, g1]
    rfl
  · obtain ⟨s, hs, rfl⟩ := inb_nI (n := 4) e
    rcases four hs with rfl | rfl | rfl | rfl
    all_goals
      simp only [k00, k01, k02, k03, k10, k11, k12, k13, k20, k21, k22, k23, k30, k31, k32, k33, if_true, if_false, F_X8_sheetOf_0, F_X8_sheetOf_1, F_X8_sheetOf_2, F_X8_sheetOf_3, Option.bind_some]
theorem copy_bad2 {a : Nat} (ha : a < 4) {to i j k : Int32} (h : inb to.toInt 0 3 = false) : F_X8_copy (ln 0) (sn 0) (it 0) (ln 1) (sn 1) (it 1) (ln 2) (sn 2) (it 2) (ln 3) (sn 3) (it 3) (nI a) i to j k = some (-1, it 0, it 1, it 2, it 3) := by
  obtain ⟨h1, h2, h3, h4, h5⟩ := shn h
  unfold F_X8_copy
  rcases four ha with rfl | rfl | rfl | rfl
  all_goals
    simp only [k00, k01, k02, k03, k10, k11, k12, k13, k20, k21, k22, k23, k30, k31, k32, k33, if_true, if_false, F_X8_sheetOf_0, F_X8_sheetOf_1, F_X8_sheetOf_2, F_X8_sheetOf_3, Option.bind_some]
    rw [if_neg h2, if_neg h3, if_neg h4, if_neg h5, h1]
    rfl
def mvd (items moved : Nat → Int64) (base c : Nat) : Nat → Int64 := fun x => if x < c then items (base + x) else moved x
theorem mvd_step (items moved : Nat → Int64) (base c : Nat) : vp_updL (mvd items moved base c) c (items (base + c)) = mvd items moved base (c + 1) := by
  funext x
  unfold vp_updL mvd
  by_cases e : x = c
  · rw [if_pos e, if_pos (by omega), e]
  · rw [if_neg e]
    by_cases h : x < c
    · rw [if_pos h, if_pos (by omega)]
    · rw [if_neg h, if_neg (by omega)]
theorem mvd_0 (items moved : Nat → Int64) (base : Nat) : mvd items moved base 0 = moved := by
  funext x
  exact if_neg (by omega)
def ctd (items g : Nat → Int64) (base c : Nat) : Nat → Int64 := fun x => if base ≤ x ∧ x < base + c then g (x - base) else items x
theorem ctd_step (items g : Nat → Int64) (base c : Nat) : vp_updL (ctd items g base c) (base + c) (g c) = ctd items g base (c + 1) := by
  funext x
  unfold vp_updL ctd
  by_cases e : x = base + c
  · rw [if_pos e, if_pos (by omega), e, Nat.add_sub_cancel_left]
  · rw [if_neg e]
    by_cases h : base ≤ x ∧ x < base + c
    · rw [if_pos h, if_pos (by omega)]
    · rw [if_neg h, if_neg (by omega)]
theorem ctd_0 (items g : Nat → Int64) (base : Nat) : ctd items g base 0 = items := by
  funext x
  exact if_neg (by omega)
theorem e3n (a i c : Nat) : 24 * nI a + nI i + nI c = nI (24 * a + i + c) := by
  rw [show (24 : Int32) * nI a = nI (24 * a) from pk_mul 24 a, nI_add, nI_add]
theorem mv_loop {a i k : Nat} (ha : a < 4) (hi : i + k ≤ 24) (kk : Int32 → (Nat → Int64) → Option (Int32 × (Nat → Int64) × (Nat → Int64))) : ∀ (d c fu : Nat), c + d = k → d < fu → FL_X9_copy_101 items (nI a) (nI i) (nI k) kk fu (nI c) (mvd items moved (24 * a + i) c) = kk (nI k) (mvd items moved (24 * a + i) k)
  | 0, c, fu + 1, hc, _ => by
    have e : c = k := by omega
    subst e
    unfold FL_X9_copy_101
    rw [if_pos (nI_le (Nat.le_refl _) (by omega))]
  | d + 1, c, fu + 1, hc, hfu => by
    have ih := mv_loop (a := a) (i := i) (k := k) ha hi kk d (c + 1) fu (by omega) (by omega)
    have ce : (nI c).toNatClampNeg = c := nI_clamp (by omega)
    have c2 : (nI (24 * a + i + c)).toNatClampNeg = 24 * a + i + c := nI_clamp (by omega)
    unfold FL_X9_copy_101
    simp only [if_neg (nI_ge (a := c) (b := k) (by omega) (by omega)), e3n, if_pos (show gvp (nI (24 * a + i + c)) 96 from gvp_nI (by omega) (by omega)), if_pos (show gvp (nI c) 24 from gvp_nI (by omega) (by omega)), ce, c2]
    rw [mvd_step, nI_1]
    exact ih
theorem ct_loop {b j k : Nat} {g : Nat → Int64} (hb : b < 4) (hj : j + k ≤ 24) (kk : Int32 → (Nat → Int64) → Option (Int32 × (Nat → Int64) × (Nat → Int64))) : ∀ (d c fu : Nat), c + d = k → d < fu → FL_X9_copy_138 (nI b) (nI j) (nI k) g kk fu (nI c) (ctd items g (24 * b + j) c) = kk (nI k) (ctd items g (24 * b + j) k)
  | 0, c, fu + 1, hc, _ => by
    have e : c = k := by omega
    subst e
    unfold FL_X9_copy_138
    rw [if_pos (nI_le (Nat.le_refl _) (by omega))]
  | d + 1, c, fu + 1, hc, hfu => by
    have ih := ct_loop (b := b) (j := j) (k := k) (g := g) hb hj kk d (c + 1) fu (by omega) (by omega)
    have ce : (nI c).toNatClampNeg = c := nI_clamp (by omega)
    have c2 : (nI (24 * b + j + c)).toNatClampNeg = 24 * b + j + c := nI_clamp (by omega)
    unfold FL_X9_copy_138
    simp only [if_neg (nI_ge (a := c) (b := k) (by omega) (by omega)), e3n, if_pos (show gvp (nI (24 * b + j + c)) 96 from gvp_nI (by omega) (by omega)), if_pos (show gvp (nI c) 24 from gvp_nI (by omega) (by omega)), ce, c2]
    rw [ctd_step, nI_1]
    exact ih
theorem rfz_0 {l sz al i k : Int32} (h1 : l = al) (h2 : ¬ l = -1) (h3 : 0 ≤ k.toInt ∧ 0 ≤ i.toInt ∧ i.toInt + k.toInt ≤ sz.toInt) : rfz l sz al i k = 0 := by
  unfold rfz
  rw [if_neg h2, if_pos h1, if_pos h3]
theorem rfz_neg {l sz al i k : Int32} (h : ¬ 0 ≤ rfz l sz al i k) : rfz l sz al i k < 0 := Int32.not_le.mp h
theorem rfz_13 {l sz al i k : Int32} (h1 : l = al) (h2 : ¬ l = -1) (h : ¬ 0 ≤ rfz l sz al i k) : rfz l sz al i k = -13 := by
  unfold rfz at h ⊢
  rw [if_neg h2, if_pos h1] at h ⊢
  by_cases h3 : 0 ≤ k.toInt ∧ 0 ≤ i.toInt ∧ i.toInt + k.toInt ≤ sz.toInt
  · rw [if_pos h3] at h
    exact absurd (by decide) h
  · rw [if_neg h3]
theorem take_ok {a b : Nat} {i j k : Nat} (ha : Rg (sn a) 0 24) (hb : Rg (sn b) 0 24) (hl : ln b = ln a) (hm : ¬ ln a = -1) (h1 : i + k ≤ (sn a).toInt.toNat) (h2 : j + k ≤ (sn b).toInt.toNat) : (if a = b then F_X6_takeItems_s (ln a) (sn a) (it a) (nI i) (nI j) (nI k) else F_X6_takeItems_o (ln b) (sn b) (it b) (ln a) (sn a) (it a) (nI i) (nI j) (nI k)) = some (va_cpy (it a) (it b) i j k) := by
  have ti : (nI i).toInt = i := nI_toInt (by omega)
  have tj : (nI j).toInt = j := nI_toInt (by omega)
  have tk : (nI k).toInt = k := nI_toInt (by omega)
  have ci : (nI i).toNatClampNeg = i := nI_clamp (by omega)
  have cj : (nI j).toNatClampNeg = j := nI_clamp (by omega)
  have ck : (nI k).toNatClampNeg = k := nI_clamp (by omega)
  have hg : gcp (nI i) (nI j) (nI k) 24 24 := ⟨nI_pos (by omega), nI_pos (by omega), nI_pos (by omega), by rw [ci, ck]; omega, by rw [cj, ck]; omega⟩
  have z1 : ∀ al, ln a = al → rfz (ln a) (sn a) al (nI i) (nI k) = 0 := fun al e => rfz_0 e hm (by rw [ti, tk]; omega)
  have z2 : rfz (ln b) (sn b) (ln b) (nI j) (nI k) = 0 := rfz_0 rfl (by rw [hl]; exact hm) (by rw [tj, tk]; omega)
  by_cases e : a = b
  · rw [if_pos e]
    subst e
    unfold F_X6_takeItems_s
    rw [rfz_cls ha, rfz_cls ha, z1 _ rfl, z2]
    simp only [Option.bind_some, if_true, if_pos hg, ci, cj, ck]
  · rw [if_neg e]
    unfold F_X6_takeItems_o
    rw [rfz_cls ha, rfz_cls hb, z1 _ hl.symm, z2]
    simp only [Option.bind_some, if_true, if_pos hg, ci, cj, ck]
theorem eq_copy (h : KR ln sn it lanes sizes items) (fr i to j k : Int32) : ∃ (r : Int32) (it' : Nat → Nat → Int64) (items' moved' : Nat → Int64), F_X8_copy (ln 0) (sn 0) (it 0) (ln 1) (sn 1) (it 1) (ln 2) (sn 2) (it 2) (ln 3) (sn 3) (it 3) fr i to j k = some (r, it' 0, it' 1, it' 2, it' 3) ∧ F_X9_copy lanes sizes items moved fr i to j k = some (r, items', moved') ∧ KR ln sn it' lanes sizes items' := by
  unfold F_X9_copy
  rw [isSheet_mod, isSheet_mod]
  simp only [Option.bind_some, gB_if]
  cases h1 : inb fr.toInt 0 3
  · exact ⟨-1, it, items, moved, copy_bad1 h1, rfl, h⟩
  · obtain ⟨a, ha, rfl⟩ := inb_nI (n := 4) h1
    cases h2 : inb to.toInt 0 3
    · exact ⟨-1, it, items, moved, copy_bad2 ha h2, rfl, h⟩
    · obtain ⟨b, hb, rfl⟩ := inb_nI (n := 4) h2
      obtain ⟨p1, p2, p3, p4, p5⟩ := h a ha
      obtain ⟨q1, q2, q3, q4, q5⟩ := h b hb
      have ca : (nI a).toNatClampNeg = a := nI_clamp (by omega)
      have cb : (nI b).toNatClampNeg = b := nI_clamp (by omega)
      rw [copy_cls ha hb]
      unfold cpG F_X6_isMissing F_X6_lane
      simp only [if_true, if_pos (gvp4 ha), if_pos (gvp4 hb), ca, cb, p1, q1, rfz_cls p3, rfz_cls q3, Option.bind_some]
      by_cases e1 : ln a = -1
      · have e1' : ln a < 0 := by
          rw [e1]
          decide
        simp only [if_pos e1, if_pos e1', Option.bind_some]
        exact ⟨-11, it, items, moved, rfl, rfl, h⟩
      · have e1' := (lane_m p2).mp e1
        simp only [if_neg e1, if_neg (show ¬ ln a < 0 from Int32.not_lt.mpr e1'), Option.bind_some, if_true]
        by_cases e2 : ln b = -1
        · simp only [if_pos e2, if_neg (show ¬ 0 ≤ ln b by rw [e2]; decide), Option.bind_some]
          exact ⟨-11, it, items, moved, rfl, rfl, h⟩
        · have e2' := (lane_m q2).mp e2
          simp only [if_neg e2, if_pos e2', Option.bind_some, if_true]
          by_cases e3 : ln a = ln b
          · simp only [if_pos e3]
            by_cases e4 : k.toInt < 0
            · have z := rfz_13 (l := ln b) (sz := sn b) (al := ln a) (i := j) (k := k) e3.symm e2 (fun hh => by
                have := (rfz_ok hh).2.2.1
                omega)
              rw [z]
              simp only [if_pos (show k < 0 by rw [gI_lt, i0]; exact e4), if_neg (show ¬ (0 : Int32) ≤ -13 by decide)]
              exact ⟨-13, it, items, moved, rfl, rfl, h⟩
            · have hk : 0 ≤ k.toInt := by omega
              rw [finds_mod h ha hk, finds_mod h hb hk]
              simp only [if_neg (show ¬ k < 0 by rw [gI_lt, i0]; exact e4), Option.bind_some]
              by_cases e5 : 0 ≤ rfz (ln b) (sn b) (ln a) j k
              · have o5 := rfz_ok e5
                by_cases e6 : 0 ≤ rfz (ln a) (sn a) (ln a) i k
                · have o6 := rfz_ok e6
                  have e5' : 0 ≤ rfz (ln b) (sn b) (ln b) j k := by
                    rw [← e3] at e5 ⊢
                    exact e5
                  simp only [if_pos e5, if_pos e6, if_pos e5', if_neg (Int32.not_lt.mpr e6)]
                  obtain ⟨ni, hni, rfl, eni⟩ := nonneg_nI o6.2.2.2.1
                  obtain ⟨nj, hnj, rfl, enj⟩ := nonneg_nI o5.2.2.2.1
                  obtain ⟨nk, hnk, rfl, enk⟩ := nonneg_nI hk
                  have b1 := o5.2.2.2.2
                  have b2 := o6.2.2.2.2
                  have hg := gN0_big
                  rw [take_ok p3 q3 e3.symm e1 (by omega) (by omega)]
                  have l1 := mv_loop (items := items) (moved := moved) (a := a) (i := ni) (k := nk) ha (by omega) (fun l6_101 a21_101 => FL_X9_copy_138 (nI b) (nI nj) (nI nk) a21_101 (fun l6_138 a20_138 => some (nI nk, a20_138, a21_101)) gN0 0 items) nk 0 gN0 (by omega) (by omega)
                  rw [mvd_0] at l1
                  have l2 := ct_loop (items := items) (b := b) (j := nj) (k := nk) (g := mvd items moved (24 * a + ni) nk) hb (by omega) (fun _ a20_138 => some (nI nk, a20_138, mvd items moved (24 * a + ni) nk)) nk 0 gN0 (by omega) (by omega)
                  rw [ctd_0] at l2
                  refine ⟨nI nk, ufn it b (va_cpy (it a) (it b) ni nj nk), ctd items (mvd items moved (24 * a + ni) nk) (24 * b + nj) nk, mvd items moved (24 * a + ni) nk, rfl, l1.trans l2, ?_⟩
                  refine h.its (fun x hx => ?_) (fun x hx => ?_)
                  · unfold va_cpy ctd mvd
                    by_cases e : nj ≤ x ∧ x < nj + nk
                    · rw [if_pos e, if_pos (by omega), if_pos (by omega), p5 _ (by omega)]
                      congr 1
                      omega
                    · rw [if_neg e, if_neg (by omega), q5 x hx]
                  · unfold ctd
                    rw [if_neg (by omega)]
                · have z := rfz_13 rfl e1 e6
                  simp only [if_pos e5, if_neg e6, if_pos (rfz_neg e6), z]
                  exact ⟨-13, it, items, moved, rfl, rfl, h⟩
              · have z := rfz_13 e3.symm e2 e5
                have z2 : rfz (ln b) (sn b) (ln b) j k = -13 := by
                  rw [← e3] at z ⊢
                  exact z
                simp only [z, z2, if_neg (show ¬ (0 : Int32) ≤ -13 by decide)]
                by_cases e6 : rfz (ln a) (sn a) (ln a) i k < 0
                · simp only [if_pos e6]
                  exact ⟨-13, it, items, moved, rfl, rfl, h⟩
                · simp only [if_neg e6]
                  exact ⟨-13, it, items, moved, rfl, rfl, h⟩
          · have z : rfz (ln b) (sn b) (ln a) j k = -12 := by
              unfold rfz
              rw [if_neg e2, if_neg (fun e => e3 e.symm)]
            simp only [if_neg e3, z, if_neg (show ¬ (0 : Int32) ≤ -12 by decide)]
            exact ⟨-12, it, items, moved, rfl, rfl, h⟩
def allF (ok : Nat → Bool) : Nat → Nat → Bool
  | _, 0 => true
  | c, d + 1 => ok c && allF ok (c + 1) d
def cntF (sg : Nat → Bool) : Nat → Nat → Nat → Nat
  | _, 0, n => n
  | c, d + 1, n => cntF sg (c + 1) d (if sg c then n + 1 else n)
theorem i32_small {x : Int64} (h : inb x.toInt (-9) 9 = true) : x.toInt32.toInt = x.toInt := by
  have := inb_t.mp h
  rw [Int64.toInt_toInt32, fb_bmod (by omega) (by omega)]
theorem armL_arm32 {dx dy : Int64} (h : armL dx dy = true) : arm dx.toInt32 dy.toInt32 := by
  unfold armL at h
  rw [Bool.and_eq_true, Bool.and_eq_true] at h
  have e1 := i32_small h.1
  have e2 := i32_small h.2.1
  have b1 := inb_t.mp h.1
  have b2 := inb_t.mp h.2.1
  exact ⟨⟨by omega, by omega⟩, ⟨by omega, by omega⟩⟩
theorem get6_cls {sz : Int32} {f : Nat → Int64} {i : Nat} (hz : Rg sz 0 24) (hi : (i : Int) < sz.toInt) : F_X6_get sz f (nI i) = some (f i) := by
  have h24 : i < 24 := by omega
  have ce : (nI i).toNatClampNeg = i := nI_clamp (by omega)
  unfold F_X6_get
  simp only [if_neg (nI_neg i (by omega)), if_neg (show ¬ sz ≤ nI i by rw [gI_le, nI_toInt (by omega)]; omega), if_neg (show ¬ (24 : Int32) ≤ nI i from nI_ge (b := 24) h24 (by omega)), if_pos (show gvp (nI i) 24 from gvp_nI h24 (by omega)), ce]
def clO (f : Nat → Int64) (i t : Nat) : Bool := armL (f (i + 2 * t)) (f (i + 2 * t + 1))
def clS (sc : Nat → Int32) (fo tu : Int32) (T : Nat) (x y : Int32) (f : Nat → Int64) (i t : Nat) : Bool := sgl (mean sc fo tu T x y (f (i + 2 * t)).toInt32 (f (i + 2 * t + 1)).toInt32 0)
variable {T P : Nat} {fo tu : Int32} {f pf g xs ys laws : Nat → Int32}
theorem two_n (c : Nat) : 2 * nI c = nI (2 * c) := pk_mul 2 c
theorem clears_l (h : SR T P fo tu f pf g xs ys laws) {q : Nat} (hq : q < P) {sz : Int32} {F : Nat → Int64} {i k : Nat} (hz : Rg sz 0 24) (hi : ((i + 2 * k : Nat) : Int) ≤ sz.toInt) (kk : Int32 → Int32 → Option Int32) : ∀ (d c n fu : Nat), c + d = k → d < fu → FL_X8_clears_76 (nI T) fo tu f (nI P) pf sz F (nI q) (nI i) (nI k) kk fu (nI n) (nI c) = if allF (clO F i) c d = true then kk (nI (cntF (clS f fo tu T (xs q) (ys q) F i) c d n)) (nI k) else some (-2)
  | 0, c, n, fu + 1, hc, _ => by
    have e : c = k := by omega
    subst e
    unfold FL_X8_clears_76
    rw [if_pos (nI_le (Nat.le_refl _) (by omega))]
    rfl
  | d + 1, c, n, fu + 1, hc, hfu => by
    have ih := fun n => clears_l h hq (F := F) (i := i) (k := k) hz hi kk d (c + 1) n fu (by omega) (by omega)
    unfold FL_X8_clears_76
    rw [if_neg (nI_ge (a := c) (b := k) (by omega) (by omega)), two_n, nI_add, nI_1, get6_cls hz (by omega), get6_cls hz (by omega)]
    simp only [Option.bind_some, isArm_cls, gB_if]
    show _ = if (clO F i c && allF (clO F i) (c + 1) d) = true then _ else _
    cases e : clO F i c
    · rw [show armL (F (i + 2 * c)) (F (i + 2 * c + 1)) = false from e]
      rfl
    · rw [show armL (F (i + 2 * c)) (F (i + 2 * c + 1)) = true from e, if_pos rfl, h.meaning hq (armL_arm32 e) rg0]
      simp only [Option.bind_some, isOne_cls _ (mean_1024 h), gB_if, Bool.true_and]
      show _ = if _ then kk (nI (cntF (clS f fo tu T (xs q) (ys q) F i) (c + 1) d (if clS f fo tu T (xs q) (ys q) F i c then n + 1 else n))) _ else _
      cases e2 : clS f fo tu T (xs q) (ys q) F i c
      · rw [show sgl (mean f fo tu T (xs q) (ys q) (F (i + 2 * c)).toInt32 (F (i + 2 * c + 1)).toInt32 0) = false from e2]
        rw [show nI n + 0 = nI (n + 0) from nI_add n 0, nI_1, nI_1]
        exact ih n
      · rw [show sgl (mean f fo tu T (xs q) (ys q) (F (i + 2 * c)).toInt32 (F (i + 2 * c + 1)).toInt32 0) = true from e2]
        rw [nI_1, nI_1]
        exact ih (n + 1)
theorem clears_la (h : SR T P fo tu f pf g xs ys laws) {q : Nat} (hq : q < P) {sz : Int32} {F : Nat → Int64} {i k : Nat} (hz : Rg sz 0 24) (hi : ((i + 2 * k : Nat) : Int) ≤ sz.toInt) (kk : Int32 → Int32 → Option Int32) : ∀ (d c n fu : Nat), c + d = k → d < fu → FL_X8_clears_76a (nI T) fo tu f (nI P) pf sz F (nI q) (nI i) (nI k) kk fu (nI n) (nI c) = if allF (clO F i) c d = true then kk (nI (cntF (clS f fo tu T (xs q) (ys q) F i) c d n)) (nI k) else some (-2)
  | 0, c, n, fu + 1, hc, _ => by
    have e : c = k := by omega
    subst e
    unfold FL_X8_clears_76a
    rw [if_pos (nI_le (Nat.le_refl _) (by omega))]
    rfl
  | d + 1, c, n, fu + 1, hc, hfu => by
    have ih := fun n => clears_la h hq (F := F) (i := i) (k := k) hz hi kk d (c + 1) n fu (by omega) (by omega)
    unfold FL_X8_clears_76a
    rw [if_neg (nI_ge (a := c) (b := k) (by omega) (by omega)), two_n, nI_add, nI_1, get6_cls hz (by omega), get6_cls hz (by omega)]
    simp only [Option.bind_some, isArm_cls, gB_if]
    show _ = if (clO F i c && allF (clO F i) (c + 1) d) = true then _ else _
    cases e : clO F i c
    · rw [show armL (F (i + 2 * c)) (F (i + 2 * c + 1)) = false from e]
      rfl
    · rw [show armL (F (i + 2 * c)) (F (i + 2 * c + 1)) = true from e, if_pos rfl, h.meaning hq (armL_arm32 e) rg0]
      simp only [Option.bind_some, isOne_cls _ (mean_1024 h), gB_if, Bool.true_and]
      show _ = if _ then kk (nI (cntF (clS f fo tu T (xs q) (ys q) F i) (c + 1) d (if clS f fo tu T (xs q) (ys q) F i c then n + 1 else n))) _ else _
      cases e2 : clS f fo tu T (xs q) (ys q) F i c
      · rw [show sgl (mean f fo tu T (xs q) (ys q) (F (i + 2 * c)).toInt32 (F (i + 2 * c + 1)).toInt32 0) = false from e2]
        rw [show nI n + 0 = nI (n + 0) from nI_add n 0, nI_1, nI_1]
        exact ih n
      · rw [show sgl (mean f fo tu T (xs q) (ys q) (F (i + 2 * c)).toInt32 (F (i + 2 * c + 1)).toInt32 0) = true from e2]
        rw [nI_1, nI_1]
        exact ih (n + 1)
theorem clears_lb (h : SR T P fo tu f pf g xs ys laws) {q : Nat} (hq : q < P) {sz : Int32} {F : Nat → Int64} {i k : Nat} (hz : Rg sz 0 24) (hi : ((i + 2 * k : Nat) : Int) ≤ sz.toInt) (kk : Int32 → Int32 → Option Int32) : ∀ (d c n fu : Nat), c + d = k → d < fu → FL_X8_clears_76b (nI T) fo tu f (nI P) pf sz F (nI q) (nI i) (nI k) kk fu (nI n) (nI c) = if allF (clO F i) c d = true then kk (nI (cntF (clS f fo tu T (xs q) (ys q) F i) c d n)) (nI k) else some (-2)
  | 0, c, n, fu + 1, hc, _ => by
    have e : c = k := by omega
    subst e
    unfold FL_X8_clears_76b
    rw [if_pos (nI_le (Nat.le_refl _) (by omega))]
    rfl
  | d + 1, c, n, fu + 1, hc, hfu => by
    have ih := fun n => clears_lb h hq (F := F) (i := i) (k := k) hz hi kk d (c + 1) n fu (by omega) (by omega)
    unfold FL_X8_clears_76b
    rw [if_neg (nI_ge (a := c) (b := k) (by omega) (by omega)), two_n, nI_add, nI_1, get6_cls hz (by omega), get6_cls hz (by omega)]
    simp only [Option.bind_some, isArm_cls, gB_if]
    show _ = if (clO F i c && allF (clO F i) (c + 1) d) = true then _ else _
    cases e : clO F i c
    · rw [show armL (F (i + 2 * c)) (F (i + 2 * c + 1)) = false from e]
      rfl
    · rw [show armL (F (i + 2 * c)) (F (i + 2 * c + 1)) = true from e, if_pos rfl, h.meaning hq (armL_arm32 e) rg0]
      simp only [Option.bind_some, isOne_cls _ (mean_1024 h), gB_if, Bool.true_and]
      show _ = if _ then kk (nI (cntF (clS f fo tu T (xs q) (ys q) F i) (c + 1) d (if clS f fo tu T (xs q) (ys q) F i c then n + 1 else n))) _ else _
      cases e2 : clS f fo tu T (xs q) (ys q) F i c
      · rw [show sgl (mean f fo tu T (xs q) (ys q) (F (i + 2 * c)).toInt32 (F (i + 2 * c + 1)).toInt32 0) = false from e2]
        rw [show nI n + 0 = nI (n + 0) from nI_add n 0, nI_1, nI_1]
        exact ih n
      · rw [show sgl (mean f fo tu T (xs q) (ys q) (F (i + 2 * c)).toInt32 (F (i + 2 * c + 1)).toInt32 0) = true from e2]
        rw [nI_1, nI_1]
        exact ih (n + 1)
theorem clears_lc (h : SR T P fo tu f pf g xs ys laws) {q : Nat} (hq : q < P) {sz : Int32} {F : Nat → Int64} {i k : Nat} (hz : Rg sz 0 24) (hi : ((i + 2 * k : Nat) : Int) ≤ sz.toInt) (kk : Int32 → Int32 → Option Int32) : ∀ (d c n fu : Nat), c + d = k → d < fu → FL_X8_clears_76c (nI T) fo tu f (nI P) pf sz F (nI q) (nI i) (nI k) kk fu (nI n) (nI c) = if allF (clO F i) c d = true then kk (nI (cntF (clS f fo tu T (xs q) (ys q) F i) c d n)) (nI k) else some (-2)
  | 0, c, n, fu + 1, hc, _ => by
    have e : c = k := by omega
    subst e
    unfold FL_X8_clears_76c
    rw [if_pos (nI_le (Nat.le_refl _) (by omega))]
    rfl
  | d + 1, c, n, fu + 1, hc, hfu => by
    have ih := fun n => clears_lc h hq (F := F) (i := i) (k := k) hz hi kk d (c + 1) n fu (by omega) (by omega)
    unfold FL_X8_clears_76c
    rw [if_neg (nI_ge (a := c) (b := k) (by omega) (by omega)), two_n, nI_add, nI_1, get6_cls hz (by omega), get6_cls hz (by omega)]
    simp only [Option.bind_some, isArm_cls, gB_if]
    show _ = if (clO F i c && allF (clO F i) (c + 1) d) = true then _ else _
    cases e : clO F i c
    · rw [show armL (F (i + 2 * c)) (F (i + 2 * c + 1)) = false from e]
      rfl
    · rw [show armL (F (i + 2 * c)) (F (i + 2 * c + 1)) = true from e, if_pos rfl, h.meaning hq (armL_arm32 e) rg0]
      simp only [Option.bind_some, isOne_cls _ (mean_1024 h), gB_if, Bool.true_and]
      show _ = if _ then kk (nI (cntF (clS f fo tu T (xs q) (ys q) F i) (c + 1) d (if clS f fo tu T (xs q) (ys q) F i c then n + 1 else n))) _ else _
      cases e2 : clS f fo tu T (xs q) (ys q) F i c
      · rw [show sgl (mean f fo tu T (xs q) (ys q) (F (i + 2 * c)).toInt32 (F (i + 2 * c + 1)).toInt32 0) = false from e2]
        rw [show nI n + 0 = nI (n + 0) from nI_add n 0, nI_1, nI_1]
        exact ih n
      · rw [show sgl (mean f fo tu T (xs q) (ys q) (F (i + 2 * c)).toInt32 (F (i + 2 * c + 1)).toInt32 0) = true from e2]
        rw [nI_1, nI_1]
        exact ih (n + 1)
theorem clears_m1 {s i k : Nat} (hs : s < 4) (hi : i + 2 * k ≤ 24) (hit : ∀ x, x < 24 → it s x = items (24 * s + x)) (kk : Int32 → Option Int32) : ∀ (d c fu : Nat), c + d = k → d < fu → FL_X9_clears_71 items (nI k) (nI (24 * s + i)) kk fu (nI c) = if allF (clO (it s) i) c d = true then kk (nI k) else some (-2)
  | 0, c, fu + 1, hc, _ => by
    have e : c = k := by omega
    subst e
    unfold FL_X9_clears_71
    rw [if_pos (nI_le (Nat.le_refl _) (by omega))]
    rfl
  | d + 1, c, fu + 1, hc, hfu => by
    have ih := clears_m1 (k := k) hs hi hit kk d (c + 1) fu (by omega) (by omega)
    have c1 : (nI (24 * s + i + 2 * c)).toNatClampNeg = 24 * s + (i + 2 * c) := by
      rw [nI_clamp (by omega)]
      omega
    have c2 : (nI (24 * s + i + 2 * c + 1)).toNatClampNeg = 24 * s + (i + 2 * c + 1) := by
      rw [nI_clamp (by omega)]
      omega
    unfold FL_X9_clears_71
    simp only [if_neg (nI_ge (a := c) (b := k) (by omega) (by omega)), two_n, nI_add, nI_1, if_pos (show gvp (nI (24 * s + i + 2 * c)) 96 from gvp_nI (by omega) (by omega)), if_pos (show gvp (nI (24 * s + i + 2 * c + 1)) 96 from gvp_nI (by omega) (by omega)), c1, c2, isArm_mod, Option.bind_some, gB_if]
    rw [← hit _ (by omega), ← hit _ (by omega), ih]
    show _ = if (clO (it s) i c && allF (clO (it s) i) (c + 1) d) = true then _ else _
    cases e : clO (it s) i c
    · rw [show armL (it s (i + 2 * c)) (it s (i + 2 * c + 1)) = false from e]
      rfl
    · rw [show armL (it s (i + 2 * c)) (it s (i + 2 * c + 1)) = true from e, if_pos rfl, Bool.true_and]
theorem clears_m2 (h : SR T P fo tu f pf g xs ys laws) {q : Nat} (hq : q < P) {s i k : Nat} (hs : s < 4) (hi : i + 2 * k ≤ 24) (hit : ∀ x, x < 24 → it s x = items (24 * s + x)) (kk : Int32 → Int32 → Option Int32) : ∀ (d c n fu : Nat), c + d = k → d < fu → allF (clO (it s) i) c d = true → FL_X9_clears_125 (nI T) g xs ys laws items (nI q) (nI k) (nI (24 * s + i)) kk fu (nI n) (nI c) = kk (nI (cntF (clS f fo tu T (xs q) (ys q) (it s) i) c d n)) (nI k)
  | 0, c, n, fu + 1, hc, _, _ => by
    have e : c = k := by omega
    subst e
    unfold FL_X9_clears_125
    rw [if_pos (nI_le (Nat.le_refl _) (by omega))]
    rfl
  | d + 1, c, n, fu + 1, hc, hfu, ha => by
    have ha' : (clO (it s) i c && allF (clO (it s) i) (c + 1) d) = true := ha
    rw [Bool.and_eq_true] at ha'
    have ih := fun n => clears_m2 h hq (k := k) hs hi hit kk d (c + 1) n fu (by omega) (by omega) ha'.2
    have c1 : (nI (24 * s + i + 2 * c)).toNatClampNeg = 24 * s + (i + 2 * c) := by
      rw [nI_clamp (by omega)]
      omega
    have c2 : (nI (24 * s + i + 2 * c + 1)).toNatClampNeg = 24 * s + (i + 2 * c + 1) := by
      rw [nI_clamp (by omega)]
      omega
    have hP := h.2.1
    have cq : (nI q).toNatClampNeg = q := nI_clamp (by omega)
    have e3 := (h.2.2.2.2.1 q hq).2.2
    unfold FL_X9_clears_125
    simp only [if_neg (nI_ge (a := c) (b := k) (by omega) (by omega)), if_pos (gvp6 hq hP), cq, two_n, nI_add, nI_1, if_pos (show gvp (nI (24 * s + i + 2 * c)) 96 from gvp_nI (by omega) (by omega)), if_pos (show gvp (nI (24 * s + i + 2 * c + 1)) 96 from gvp_nI (by omega) (by omega)), c1, c2]
    rw [← hit _ (by omega), ← hit _ (by omega), h.means e3 (armL_arm32 ha'.1) rg0]
    simp only [Option.bind_some, isSingle_mod _ (mean_1024 h), gB_if]
    show _ = kk (nI (cntF (clS f fo tu T (xs q) (ys q) (it s) i) (c + 1) d (if clS f fo tu T (xs q) (ys q) (it s) i c then n + 1 else n))) _
    cases e2 : clS f fo tu T (xs q) (ys q) (it s) i c
    · rw [show sgl (mean f fo tu T (xs q) (ys q) (it s (i + 2 * c)).toInt32 (it s (i + 2 * c + 1)).toInt32 0) = false from e2]
      rw [show nI n + 0 = nI (n + 0) from nI_add n 0]
      exact ih n
    · rw [show sgl (mean f fo tu T (xs q) (ys q) (it s (i + 2 * c)).toInt32 (it s (i + 2 * c + 1)).toInt32 0) = true from e2]
      exact ih (n + 1)
noncomputable def clG (ln sn : Nat → Int32) (it : Nat → Nat → Int64) (s : Nat) (T P : Nat) (fo tu : Int32) (f pf xs ys : Nat → Int32) (p la i k : Int32) : Option Int32 := if inb p.toInt 0 (P - 1) = true then (if inb la.toInt 0 2 = true then (if k < 1 then some (-1) else (if k ≤ 12 then (if 0 ≤ rfz (ln s) (sn s) la i (2 * k) then (if allF (clO (it s) i.toNatClampNeg) 0 k.toNatClampNeg = true then some (nI (cntF (clS f fo tu T (xs p.toNatClampNeg) (ys p.toNatClampNeg) (it s) i.toNatClampNeg) 0 k.toNatClampNeg 0)) else some (-2)) else some (rfz (ln s) (sn s) la i (2 * k))) else some (-1))) else some (-1)) else some (-1)
theorem clears_cls (h : SR T P fo tu f pf g xs ys laws) {s : Nat} (hs : s < 4) (hr : Rg (sn s) 0 24) (p la i k : Int32) : F_X8_clears (nI T) fo tu f (nI P) pf (ln 0) (sn 0) (it 0) (ln 1) (sn 1) (it 1) (ln 2) (sn 2) (it 2) (ln 3) (sn 3) (it 3) p (nI s) la i k = clG ln sn it s T P fo tu f pf xs ys p la i k := by
  have hP := h.2.1
  have hg := gN0_big
  unfold F_X8_clears clG
  rw [has_cls (by omega), isLane_cls]
  have cond : inb p.toInt 0 (P - 1) = true → 1 ≤ k.toInt → k ≤ 12 → 0 ≤ rfz (ln s) (sn s) la i (2 * k) → ∃ q a c : Nat, q < P ∧ p = nI q ∧ i = nI a ∧ k = nI c ∧ p.toNatClampNeg = q ∧ i.toNatClampNeg = a ∧ k.toNatClampNeg = c ∧ ((a + 2 * c : Nat) : Int) ≤ (sn s).toInt ∧ c < 100 := by
    intro h1 h2 h3 h4
    obtain ⟨q, hq, rfl⟩ := inb_nI h1
    obtain ⟨c, hc, rfl, ec⟩ := nonneg_nI (i := k) (by omega)
    have o := rfz_ok h4
    obtain ⟨a, ha, rfl, ea⟩ := nonneg_nI (i := i) o.2.2.2.1
    have h3' : (nI c).toInt ≤ (12 : Int32).toInt := (gI_le _ _).mp h3
    have e12 : (12 : Int32).toInt = 12 := rfl
    have b := o.2.2.2.2
    rw [two_n, nI_toInt (n := 2 * c) (by omega)] at b
    exact ⟨q, a, c, hq, rfl, rfl, rfl, nI_clamp (by omega), nI_clamp ha, nI_clamp hc, by omega, by omega⟩
  rcases four hs with rfl | rfl | rfl | rfl
  all_goals
    simp only [k00, k01, k02, k03, k10, k11, k12, k13, k20, k21, k22, k23, k30, k31, k32, k33, if_true, if_false, F_X8_sheetOf_0, F_X8_sheetOf_1, F_X8_sheetOf_2, F_X8_sheetOf_3, Option.bind_some, gB_if, rfz_cls hr]
    by_cases h1 : inb p.toInt 0 (P - 1) = true
    · simp only [if_pos h1]
      by_cases h2 : inb la.toInt 0 2 = true
      · simp only [if_pos h2]
        by_cases h3 : k < 1
        · simp only [if_pos h3]
        · simp only [if_neg h3]
          by_cases h4 : k ≤ 12
          · simp only [if_pos h4]
            split
            · rename_i h5
              obtain ⟨q, a, c, hq, rfl, rfl, rfl, e1, e2, e3, e4, e5⟩ := cond h1 (by
                have := (gI_le _ _).mp (Int32.not_lt.mp h3)
                exact this) h4 h5
              rw [e1, e2, e3]
              first
              | exact clears_l h hq hr e4 (fun a _ => some a) c 0 0 gN0 (by omega) (by omega)
              | exact clears_la h hq hr e4 (fun a _ => some a) c 0 0 gN0 (by omega) (by omega)
              | exact clears_lb h hq hr e4 (fun a _ => some a) c 0 0 gN0 (by omega) (by omega)
              | exact clears_lc h hq hr e4 (fun a _ => some a) c 0 0 gN0 (by omega) (by omega)
            · rfl
          · simp only [if_neg h4]
      · simp only [if_neg h2]
    · simp only [if_neg h1]
theorem clears_bad (hP : P ≤ 6) {p sh la i k : Int32} (h : inb sh.toInt 0 3 = false) : F_X8_clears (nI T) fo tu f (nI P) pf (ln 0) (sn 0) (it 0) (ln 1) (sn 1) (it 1) (ln 2) (sn 2) (it 2) (ln 3) (sn 3) (it 3) p sh la i k = some (-1) := by
  obtain ⟨h1, h2, h3, h4, h5⟩ := shn h
  unfold F_X8_clears
  rw [if_neg h2, if_neg h3, if_neg h4, if_neg h5, h1, has_cls (by omega)]
  simp only [Option.bind_some, ite_self]
theorem eq_clears (h : SR T P fo tu f pf g xs ys laws) (hk : KR ln sn it lanes sizes items) (p sh la i k : Int32) : ∃ r, F_X8_clears (nI T) fo tu f (nI P) pf (ln 0) (sn 0) (it 0) (ln 1) (sn 1) (it 1) (ln 2) (sn 2) (it 2) (ln 3) (sn 3) (it 3) p sh la i k = some r ∧ F_X9_clears (nI T) (nI P) g xs ys laws lanes sizes items p sh la i k = some r := by
  have hP := h.2.1
  have hg := gN0_big
  unfold F_X9_clears
  rw [isOne_mod (by omega), isSheet_mod, isLane_mod, in_mod32]
  simp only [Option.bind_some, gB_if]
  show ∃ r, _ = _ ∧ (if inb p.toInt 0 (P - 1) = true then (if inb sh.toInt 0 3 = true then (if inb la.toInt 0 2 = true then (if inb k.toInt 1 12 = true then _ else _) else _) else _) else _) = _
  cases h2 : inb sh.toInt 0 3
  · refine ⟨-1, clears_bad hP h2, ?_⟩
    cases inb p.toInt 0 (P - 1) <;> rfl
  · obtain ⟨s, hs, rfl⟩ := inb_nI (n := 4) h2
    obtain ⟨q1, q2, q3, q4, q5⟩ := hk s hs
    rw [clears_cls h hs q3]
    unfold clG
    cases h1 : inb p.toInt 0 (P - 1)
    · exact ⟨-1, rfl, rfl⟩
    · simp only [if_true]
      cases h3 : inb la.toInt 0 2
      · exact ⟨-1, rfl, rfl⟩
      · simp only [if_true]
        have k1 : (k < 1) ↔ k.toInt < 1 := gI_lt k 1
        have k12 : (k ≤ 12) ↔ k.toInt ≤ 12 := gI_le k 12
        cases h4 : inb k.toInt 1 12
        · refine ⟨-1, ?_, rfl⟩
          rcases inb_f.mp h4 with h5 | h5
          · rw [if_pos (k1.mpr h5)]
          · rw [if_neg (by rw [k1]; omega), if_neg (by rw [k12]; omega)]
        · have h5 := inb_t.mp h4
          obtain ⟨c, hc, rfl, ec⟩ := nonneg_nI (i := k) (by omega)
          have e2c : (2 * nI c).toInt = ((2 * c : Nat) : Int) := by rw [two_n, nI_toInt (by omega)]
          rw [if_neg (by rw [k1]; omega), if_pos (by rw [k12]; omega), finds_mod hk hs (by rw [e2c]; omega)]
          simp only [if_true, Option.bind_some]
          by_cases h6 : 0 ≤ rfz (ln s) (sn s) la i (2 * nI c)
          · simp only [if_pos h6]
            have o := rfz_ok h6
            obtain ⟨a, ha, rfl, ea⟩ := nonneg_nI (i := i) o.2.2.2.1
            obtain ⟨q, hq, rfl⟩ := inb_nI h1
            have b := o.2.2.2.2
            rw [e2c] at b
            rw [nI_clamp ha, nI_clamp hc, nI_clamp (n := q) (by omega), show (24 : Int32) * nI s = nI (24 * s) from pk_mul 24 s, nI_add]
            have m1 := clears_m1 (it := it) (items := items) (s := s) (i := a) (k := c) hs (by omega) q5 (fun _ => FL_X9_clears_125 (nI T) g xs ys laws items (nI q) (nI c) (nI (24 * s + a)) (fun l8_125 _ => some l8_125) gN0 0 0) c 0 gN0 (by omega) (by omega)
            cases h7 : allF (clO (it s) a) 0 c
            · rw [h7] at m1
              exact ⟨-2, rfl, m1⟩
            · rw [h7, if_pos rfl] at m1
              have m2 := clears_m2 h hq (it := it) (items := items) (s := s) (i := a) (k := c) hs (by omega) q5 (fun l8_125 _ => some l8_125) c 0 0 gN0 (by omega) (by omega) h7
              exact ⟨_, rfl, m1.trans m2⟩
          · simp only [if_neg h6]
            exact ⟨_, rfl, rfl⟩
end Sheets2
