/-! The calls of part 2 of the document, both sides, over scenes that agree. -/
theorem get_gen {w S n r c : Nat} {f : Nat → Int32} (hr : r < S) (hc : c < w) (hi : r * w + c < n) (h1 : S < 2 ^ 31) (h2 : w < 2 ^ 31) (h3 : n < 2 ^ 31) : F_X4_get (nI w) (nI S) n f (nI r) (nI c) = some (f (r * w + c)) := by
  unfold F_X4_get
  have e : nI r * nI w + nI c = nI (r * w + c) := by rw [pk_mul, nI_add]
  rw [if_neg (nI_neg r (by omega)), if_neg (nI_ge hr h1), if_neg (nI_neg c (by omega)), if_neg (nI_ge hc h2), e, if_pos (gvp_nI hi h3), nI_clamp (by omega)]
theorem get_pp {P k c : Nat} {pf : Nat → Int32} (hP : P ≤ 6) (hk : k < P) (hc : c < 2) : F_X4_get 2 (nI P) 12 pf (nI k) (nI c) = some (pf (2 * k + c)) := by
  have := get_gen (w := 2) (S := P) (n := 12) (r := k) (c := c) (f := pf) hk hc (by omega) (by omega) (by omega) (by omega)
  rw [Nat.mul_comm] at this
  exact this
/-- the scenes agree: things, people, laws -/
def SR (T P : Nat) (fo tu : Int32) (f pf g xs ys laws : Nat → Int32) : Prop := T ≤ 10 ∧ P ≤ 6 ∧ gScn f T ∧ (∀ i, i < 5 * T → g i = f i) ∧ (∀ k, k < P → xs k = pf (2 * k) ∧ ys k = pf (2 * k + 1) ∧ pt (xs k) (ys k)) ∧ laws 0 = fo ∧ laws 1 = tu ∧ (fo = 0 ∨ fo = 1) ∧ (tu = 0 ∨ tu = 1)
theorem mid_congr {f g : Nat → Int32} {T t ax : Nat} {tk : Int32} (h : ∀ i, i < 5 * T → g i = f i) (ht : t < T) (hx : ax < 2) : mid g tk t ax = mid f tk t ax := by
  unfold mid
  rw [h _ (by omega), h _ (by omega)]
theorem met_congr {f g : Nat → Int32} {T t : Nat} {tu x y dx dy tk : Int32} (h : ∀ i, i < 5 * T → g i = f i) (ht : t < T) : met g tu x y dx dy tk t = met f tu x y dx dy tk t := by
  unfold met
  rw [mid_congr h ht (by omega), mid_congr h ht (by omega), h _ (by omega)]
theorem mset_congr {f g : Nat → Int32} {T : Nat} {tu x y dx dy tk : Int32} (h : ∀ i, i < 5 * T → g i = f i) : mset g tu T x y dx dy tk = mset f tu T x y dx dy tk := bset_congr (fun _ ht => met_congr h ht)
theorem nar_congr {f g : Nat → Int32} {T s : Nat} {fo dx dy tk : Int32} (h : ∀ i, i < 5 * T → g i = f i) : nar g fo T s dx dy tk = nar f fo T s dx dy tk := by
  unfold nar
  rw [amin_congr (lt' := klt f dx dy tk) (fun a b ha hb => by
    unfold klt key
    rw [mid_congr h ha (by omega), mid_congr h ha (by omega), mid_congr h hb (by omega), mid_congr h hb (by omega)])]
theorem mean_congr {f g : Nat → Int32} {T : Nat} {fo tu x y dx dy tk : Int32} (h : ∀ i, i < 5 * T → g i = f i) : mean g fo tu T x y dx dy tk = mean f fo tu T x y dx dy tk := by
  unfold mean
  rw [mset_congr h, nar_congr h]
theorem gScn_congr {f g : Nat → Int32} {T : Nat} (h : ∀ i, i < 5 * T → g i = f i) (hf : gScn f T) : gScn g T := by
  intro t ht
  rw [h _ (by omega), h _ (by omega), h _ (by omega), h _ (by omega), h _ (by omega)]
  exact hf t ht
section Query
variable {T P : Nat} {fo tu : Int32} {f pf g xs ys laws : Nat → Int32}
theorem SR.meets (h : SR T P fo tu f pf g xs ys laws) {x y dx dy tk : Int32} : F_X9_meetsAt (nI T) g laws x y dx dy tk = some (nI (mset f tu T x y dx dy tk)) := by
  obtain ⟨hT, hP, hf, hg, hp, h0, h1, -⟩ := h
  rw [meetsAt_mod laws hT, h1, mset_congr hg]
theorem SR.ahead (h : SR T P fo tu f pf g xs ys laws) {s : Nat} (hs : s < 2 ^ T) {x y dx dy tk : Int32} (hp2 : pt x y) (ha : arm dx dy) (hk : Rg tk 0 60) : F_X9_ahead (nI T) g laws (nI s) x y dx dy tk = some (nI (nar f fo T s dx dy tk)) := by
  obtain ⟨hT, hP, hf, hg, hp, h0, h1, -⟩ := h
  rw [ahead_mod laws (gScn_congr hg hf) hT (Nat.lt_of_lt_of_le hs (Nat.pow_le_pow_right (by decide) hT)) hp2 ha hk, h0, nar_congr hg]
theorem SR.means (h : SR T P fo tu f pf g xs ys laws) {x y dx dy tk : Int32} (hp2 : pt x y) (ha : arm dx dy) (hk : Rg tk 0 60) : F_X9_meansAt (nI T) g laws x y dx dy tk = some (nI (mean f fo tu T x y dx dy tk)) := by
  obtain ⟨hT, hP, hf, hg, hp, h0, h1, -⟩ := h
  rw [meansAt_mod laws (gScn_congr hg hf) hT hp2 ha hk, h0, h1, mean_congr hg]
theorem SR.metBy (h : SR T P fo tu f pf g xs ys laws) {k : Nat} (hk : k < P) {dx dy tk : Int32} (ha : arm dx dy) (ht : Rg tk 0 60) : F_X8_metBy (nI T) tu f (nI P) pf (nI k) dx dy tk = some (nI (mset f tu T (xs k) (ys k) dx dy tk)) := by
  obtain ⟨hT, hP, hf, hg, hp, h0, h1, -⟩ := h
  obtain ⟨e1, e2, e3⟩ := hp k hk
  unfold F_X8_metBy
  rw [show F_X4_get 2 (nI P) 12 pf (nI k) 0 = _ from get_pp (c := 0) hP hk (by omega), show F_X4_get 2 (nI P) 12 pf (nI k) 1 = _ from get_pp (c := 1) hP hk (by omega)]
  simp only [Option.bind_some]
  rw [Nat.add_zero, ← e1, ← e2, metBy_cls hf hT e3 ha ht]
  rfl
theorem SR.meaning (h : SR T P fo tu f pf g xs ys laws) {k : Nat} (hk : k < P) {dx dy tk : Int32} (ha : arm dx dy) (ht : Rg tk 0 60) : F_X8_meaningOf (nI T) fo tu f (nI P) pf (nI k) dx dy tk = some (nI (mean f fo tu T (xs k) (ys k) dx dy tk)) := by
  unfold F_X8_meaningOf
  rw [h.metBy hk ha ht]
  simp only [Option.bind_some]
  rw [narrowed_cls h.1 (mset_lt _ _ _ _ _ _ _ _)]
  rfl
theorem rg0 : Rg (0 : Int32) 0 60 := ⟨by decide, by decide⟩
theorem eq_meets (h : SR T P fo tu f pf g xs ys laws) (x y dx dy : Int32) : ∃ r, F_X8_meets (nI T) tu f x y dx dy = some r ∧ F_X9_meets (nI T) g laws x y dx dy = some r := by
  unfold F_X8_meets F_X9_meets
  rw [isPoint_cls, isPoint_mod, isArm_cls, isArm_mod]
  simp only [Option.bind_some, gB_if]
  cases h1 : ptB x y
  · exact ⟨_, rfl, rfl⟩
  · cases h2 : armL dx.toInt64 dy.toInt64
    · exact ⟨_, rfl, rfl⟩
    · rw [metBy_cls h.2.2.1 h.1 (ptB_t.mp h1) (armL_arm h2) rg0, h.meets]
      exact ⟨_, rfl, rfl⟩
theorem gvp6 {k P : Nat} (hk : k < P) (hP : P ≤ 6) : gvp (nI k) 6 := gvp_nI (by omega) (by omega)
theorem eq_means (h : SR T P fo tu f pf g xs ys laws) (p dx dy tk : Int32) : ∃ r, F_X8_means (nI T) fo tu f (nI P) pf p dx dy tk = some r ∧ F_X9_means (nI T) (nI P) g xs ys laws p dx dy tk = some r := by
  have hP := h.2.1
  unfold F_X8_means F_X9_means
  rw [has_cls (by omega), isOne_mod (by omega), isArm_cls, isArm_mod, isTick_cls, isTick_mod]
  simp only [Option.bind_some, gB_if]
  cases h1 : inb p.toInt 0 (P - 1)
  · exact ⟨_, rfl, rfl⟩
  · obtain ⟨k, hk, rfl⟩ := inb_nI h1
    cases h2 : armL dx.toInt64 dy.toInt64
    · exact ⟨_, rfl, rfl⟩
    · cases h3 : inb tk.toInt 0 60
      · exact ⟨_, rfl, rfl⟩
      · have e3 := (h.2.2.2.2.1 k hk).2.2
        simp only [if_true]
        rw [h.meaning hk (armL_arm h2) (inb_t.mp h3), if_pos (gvp6 hk hP), if_pos (gvp6 hk hP), nI_clamp (by omega), h.means e3 (armL_arm h2) (inb_t.mp h3)]
        exact ⟨_, rfl, rfl⟩
theorem and_lt2 {a b T : Nat} (ha : a < 2 ^ T) : a &&& b < 2 ^ T := Nat.lt_of_le_of_lt Nat.and_le_left ha
theorem eq_both (h : SR T P fo tu f pf g xs ys laws) (p dx dy q ex ey : Int32) : ∃ r, F_X8_both (nI T) fo tu f (nI P) pf p dx dy q ex ey = some r ∧ F_X9_both (nI T) (nI P) g xs ys laws p dx dy q ex ey = some r := by
  have hP := h.2.1
  unfold F_X8_both F_X9_both
  rw [has_cls (by omega), has_cls (by omega), isOne_mod (by omega), isOne_mod (by omega), isArm_cls, isArm_cls, isArm_mod, isArm_mod]
  simp only [Option.bind_some, gB_if]
  cases h1 : inb p.toInt 0 (P - 1)
  · exact ⟨_, rfl, rfl⟩
  · obtain ⟨k, hk, rfl⟩ := inb_nI h1
    cases h2 : armL dx.toInt64 dy.toInt64
    · exact ⟨_, rfl, rfl⟩
    · cases h3 : inb q.toInt 0 (P - 1)
      · exact ⟨_, rfl, rfl⟩
      · obtain ⟨j, hj, rfl⟩ := inb_nI h3
        cases h4 : armL ex.toInt64 ey.toInt64
        · exact ⟨_, rfl, rfl⟩
        · have e3 := (h.2.2.2.2.1 k hk).2.2
          simp only [if_true]
          have ck : (nI k).toNatClampNeg = k := nI_clamp (by omega)
          have cj : (nI j).toNatClampNeg = j := nI_clamp (by omega)
          simp only [if_pos (gvp6 hk hP), if_pos (gvp6 hj hP), ck, cj]
          rw [h.metBy hk (armL_arm h2) rg0, h.metBy hj (armL_arm h4) rg0, h.meets, h.meets]
          simp only [Option.bind_some]
          rw [nI_and, narrowed_cls h.1 (and_lt2 (mset_lt _ _ _ _ _ _ _ _)), h.ahead (and_lt2 (mset_lt _ _ _ _ _ _ _ _)) e3 (armL_arm h2) rg0]
          exact ⟨_, rfl, rfl⟩
theorem nI_inj {a b : Nat} (ha : a < 2 ^ 31) (hb : b < 2 ^ 31) : nI a = nI b ↔ a = b := nI_eq ha hb
theorem eq_misread (h : SR T P fo tu f pf g xs ys laws) (p dx dy q : Int32) : ∃ r, F_X8_misread (nI T) fo tu f (nI P) pf p dx dy q = some r ∧ F_X9_misread (nI T) (nI P) g xs ys laws p dx dy q = some r := by
  have hP := h.2.1
  unfold F_X8_misread F_X9_misread F_X8_areTwo
  rw [has_cls (by omega), has_cls (by omega), isOne_mod (by omega), isOne_mod (by omega), isArm_cls, isArm_mod]
  simp only [Option.bind_some, gB_if]
  cases h1 : inb p.toInt 0 (P - 1)
  · exact ⟨-1, by simp, by simp⟩
  · obtain ⟨k, hk, rfl⟩ := inb_nI h1
    cases h3 : inb q.toInt 0 (P - 1)
    · cases h2 : armL dx.toInt64 dy.toInt64
      · exact ⟨-1, by simp, by simp⟩
      · exact ⟨-1, by simp, by simp⟩
    · obtain ⟨j, hj, rfl⟩ := inb_nI h3
      by_cases hq : nI k = nI j
      · cases h2 : armL dx.toInt64 dy.toInt64
        · exact ⟨-1, by simp [hq], by simp⟩
        · exact ⟨-1, by simp [hq], by simp [hq]⟩
      · cases h2 : armL dx.toInt64 dy.toInt64
        · exact ⟨-1, by simp [hq], by simp⟩
        · have e3 := (h.2.2.2.2.1 j hj).2.2
          refine ⟨nI (mean f fo tu T (xs j) (ys j) dx dy 0), ?_, ?_⟩
          · simp only [if_true, if_neg hq, Option.bind_some]
            rw [if_neg (by decide), h.meaning hj (armL_arm h2) rg0]
            rfl
          · simp only [if_true, if_neg hq]
            rw [if_pos (gvp6 hj hP), if_pos (gvp6 hj hP), nI_clamp (by omega), h.means e3 (armL_arm h2) rg0]
            rfl
theorem eq_at (h : SR T P fo tu f pf g xs ys laws) (th tk wh : Int32) : ∃ r, F_X8_at (nI T) f th tk wh = some r ∧ F_X9_at (nI T) g th tk wh = some r := by
  have hT := h.1
  unfold F_X8_at F_X9_at
  rw [has_cls (by omega), isThing_mod (by omega), isTick_cls, isTick_mod, in_mod32]
  simp only [Option.bind_some, gB_if]
  cases h1 : inb th.toInt 0 (T - 1)
  · exact ⟨_, rfl, rfl⟩
  · obtain ⟨k, hk, rfl⟩ := inb_nI h1
    cases h3 : inb tk.toInt 0 60
    · exact ⟨_, rfl, rfl⟩
    · have c1 : (wh < 0) ↔ wh.toInt < 0 := gI_lt wh 0
      have c2 : (wh ≤ 1) ↔ wh.toInt ≤ 1 := gI_le wh 1
      cases h4 : inb wh.toInt 0 1
      · refine ⟨-100001, ?_, by simp [h4]⟩
        rcases inb_f.mp h4 with h5 | h5
        · simp [c1, h5]
        · simp only [if_true, c1, c2]
          rw [if_neg (by omega), if_neg (by omega)]
      · have h5 := inb_t.mp h4
        obtain ⟨ax, hax, rfl⟩ : ∃ ax, ax < 2 ∧ wh = nI ax := inb_nI (n := 2) h4
        refine ⟨mid f tk k ax, ?_, ?_⟩
        · simp only [if_true]
          rw [if_neg (by rw [c1]; omega), if_pos (by rw [c2]; omega), mid_cls f tk (by omega) hax]
          rfl
        · have h4' : inb (nI ax).toInt (0 : Int64).toInt (1 : Int64).toInt = true := h4
          rw [h4']
          simp only [if_true]
          rw [mid_mod g tk (by omega) hax, mid_congr h.2.2.2.1 hk hax]
          rfl
end Query
