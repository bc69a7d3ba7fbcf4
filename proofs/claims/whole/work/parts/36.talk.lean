/-! Talks: rows of arms in the class, a table by sentences in the model. -/
def off (a : Nat → Nat) : Nat → Nat
  | 0 => 0
  | n + 1 => off a n + a n
theorem off_mono (a : Nat → Nat) {m : Nat} : ∀ {n : Nat}, m ≤ n → off a m ≤ off a n
  | 0, h => by
    have : m = 0 := by omega
    rw [this]
    exact Nat.le_refl _
  | n + 1, h => by
    rcases Nat.lt_or_ge n m with h1 | h1
    · have : m = n + 1 := by omega
      rw [this]
      exact Nat.le_refl _
    · have := off_mono a h1
      rw [off]
      omega
theorem off_find (a : Nat → Nat) : ∀ {N i : Nat}, i < off a N → ∃ s j, s < N ∧ j < a s ∧ i = off a s + j
  | 0, i, h => by simp [off] at h
  | N + 1, i, h => by
    rcases Nat.lt_or_ge i (off a N) with h1 | h1
    · obtain ⟨s, j, h2, h3, h4⟩ := off_find a h1
      exact ⟨s, j, by omega, h3, h4⟩
    · rw [off] at h
      exact ⟨N, i - off a N, by omega, by omega, by omega⟩
/-- the talks agree: N sentences, of a s arms each -/
def TR (P N : Nat) (a : Nat → Nat) (az : Int32) (af arms talk : Nat → Int32) : Prop := N ≤ 6 ∧ off a N ≤ 18 ∧ az = nI (off a N) ∧ ∀ s, s < N → 1 ≤ a s ∧ a s ≤ 3 ∧ arms s = nI (a s) ∧ ∀ j, j < a s → af (4 * (off a s + j)) = nI s ∧ af (4 * (off a s + j) + 1) = talk (9 * s + 3 * j) ∧ af (4 * (off a s + j) + 2) = talk (9 * s + 3 * j + 1) ∧ af (4 * (off a s + j) + 3) = talk (9 * s + 3 * j + 2) ∧ (∃ w, w < P ∧ talk (9 * s + 3 * j) = nI w) ∧ arm (talk (9 * s + 3 * j + 1)) (talk (9 * s + 3 * j + 2))
theorem get_arm {A r c : Nat} {af : Nat → Int32} (hA : A ≤ 18) (hr : r < A) (hc : c < 4) : F_X4_get 4 (nI A) 72 af (nI r) (nI c) = some (af (4 * r + c)) := by
  have := get_gen (w := 4) (S := A) (n := 72) (r := r) (c := c) (f := af) hr hc (by omega) (by omega) (by omega) (by omega)
  rw [Nat.mul_comm] at this
  exact this
theorem TR.sentences {P N : Nat} {a : Nat → Nat} {az : Int32} {af arms talk : Nat → Int32} (h : TR P N a az af arms talk) : F_X5_sentences az af = some (nI N) := by
  obtain ⟨hN, hA, rfl, hs⟩ := h
  unfold F_X5_sentences F_X4_size
  simp only [Option.bind_some]
  rcases Nat.eq_zero_or_pos N with rfl | hp
  · rw [if_pos (show nI (off a 0) = 0 from rfl)]
    rfl
  · obtain ⟨n, rfl⟩ : ∃ n, N = n + 1 := ⟨N - 1, by omega⟩
    obtain ⟨h1, h2, h3, h4⟩ := hs n (by omega)
    have hpos : 0 < off a (n + 1) := by rw [off]; omega
    rw [if_neg (nI_ne0 hpos (by omega))]
    have e : nI (off a (n + 1)) - 1 = nI (off a n + (a n - 1)) := by
      rw [off, show off a n + a n = (off a n + (a n - 1)) + 1 by omega, nI_pred]
    have g := get_arm (A := off a (n + 1)) (r := off a n + (a n - 1)) (c := 0) (af := af) hA (by rw [off]; omega) (by omega)
    rw [e, show F_X4_get 4 (nI (off a (n + 1))) 72 af (nI (off a n + (a n - 1))) 0 = _ from g]
    simp only [Option.bind_some]
    rw [Nat.add_zero, (h4 (a n - 1) (by omega)).1, nI_1]
/-- the sets that the first j arms of a sentence meet, together -/
def sset (f : Nat → Int32) (tu : Int32) (T : Nat) (xs ys talk : Nat → Int32) (s : Nat) (tk : Int32) : Nat → Nat
  | 0 => 2 ^ T - 1
  | j + 1 => sset f tu T xs ys talk s tk j &&& mset f tu T (xs (talk (9 * s + 3 * j)).toNatClampNeg) (ys (talk (9 * s + 3 * j)).toNatClampNeg) (talk (9 * s + 3 * j + 1)) (talk (9 * s + 3 * j + 2)) tk
theorem sset_lt {f : Nat → Int32} {tu : Int32} {T : Nat} {xs ys talk : Nat → Int32} {s : Nat} {tk : Int32} : ∀ j, sset f tu T xs ys talk s tk j < 2 ^ T
  | 0 => by
    have := Nat.two_pow_pos T
    rw [sset]
    omega
  | j + 1 => by
    rw [sset]
    exact and_lt2 (sset_lt j)
theorem full_and {m T : Nat} (h : m < 2 ^ T) : (2 ^ T - 1) &&& m = m := by
  rw [Nat.and_comm, Nat.and_two_pow_sub_one_eq_mod, Nat.mod_eq_of_lt h]
def say (f : Nat → Int32) (fo tu : Int32) (T : Nat) (xs ys talk : Nat → Int32) (a : Nat → Nat) (s : Nat) (tk : Int32) : Nat := nar f fo T (sset f tu T xs ys talk s tk (a s)) (talk (9 * s + 1)) (talk (9 * s + 2)) tk
theorem say_lt {f : Nat → Int32} {fo tu : Int32} {T : Nat} {xs ys talk : Nat → Int32} {a : Nat → Nat} {s : Nat} {tk : Int32} : say f fo tu T xs ys talk a s tk < 2 ^ T := nar_lt (sset_lt _)
section Talk
variable {T P N : Nat} {fo tu az : Int32} {f pf g xs ys laws af arms talk : Nat → Int32} {a : Nat → Nat}
theorem saysAt_loop (h : SR T P fo tu f pf g xs ys laws) (ht : TR P N a az af arms talk) {s : Nat} (hs : s < N) {tk : Int32} (kk : Int32 → Int32 → Option Int32) : ∀ (d j fu : Nat), j + d = a s → d < fu →
    FL_X9_saysAt_12 (nI T) g xs ys laws arms talk (nI s) tk kk fu (nI (sset f tu T xs ys talk s tk j)) (nI j) = kk (nI (sset f tu T xs ys talk s tk (a s))) (nI (a s))
  | 0, j, fu + 1, hj, _ => by
    have e : j = a s := by omega
    obtain ⟨hN, hA, -, hs2⟩ := ht
    obtain ⟨h1, h2, h3, h4⟩ := hs2 s hs
    have cs : (nI s).toNatClampNeg = s := nI_clamp (by omega)
    subst e
    unfold FL_X9_saysAt_12
    simp only [if_pos (show gvp (nI s) 6 from gvp_nI (by omega) (by omega)), cs]
    rw [h3, if_pos (nI_le (Nat.le_refl _) (by omega))]
  | d + 1, j, fu + 1, hj, hfu => by
    have ih := saysAt_loop h ht hs (tk := tk) kk d (j + 1) fu (by omega) (by omega)
    obtain ⟨hN, hA, -, hs2⟩ := ht
    obtain ⟨h1, h2, h3, h4⟩ := hs2 s hs
    obtain ⟨-, -, -, -, ⟨w, hw, ew⟩, -⟩ := h4 j (by omega)
    have hP := h.2.1
    have cs : (nI s).toNatClampNeg = s := nI_clamp (by omega)
    have cw : (nI w).toNatClampNeg = w := nI_clamp (by omega)
    have e0 : (9 * nI s) + (3 * nI j) = nI (9 * s + 3 * j) := by
      show (nI 9 * nI s) + (nI 3 * nI j) = _
      rw [pk_mul, pk_mul, nI_add]
    have e1 : nI (9 * s + 3 * j) + 1 = nI (9 * s + 3 * j + 1) := nI_1 _
    have e2 : nI (9 * s + 3 * j) + 2 = nI (9 * s + 3 * j + 2) := nI_add _ 2
    have k0 : (nI (9 * s + 3 * j)).toNatClampNeg = 9 * s + 3 * j := nI_clamp (by omega)
    have k1 : (nI (9 * s + 3 * j + 1)).toNatClampNeg = 9 * s + 3 * j + 1 := nI_clamp (by omega)
    have k2 : (nI (9 * s + 3 * j + 2)).toNatClampNeg = 9 * s + 3 * j + 2 := nI_clamp (by omega)
    unfold FL_X9_saysAt_12
    simp only [if_pos (show gvp (nI s) 6 from gvp_nI (by omega) (by omega)), cs]
    rw [h3, if_neg (nI_ge (by omega) (by omega))]
    simp only [e0, e1, e2, if_pos (show gvp (nI (9 * s + 3 * j)) 54 from gvp_nI (by omega) (by omega)), if_pos (show gvp (nI (9 * s + 3 * j + 1)) 54 from gvp_nI (by omega) (by omega)), if_pos (show gvp (nI (9 * s + 3 * j + 2)) 54 from gvp_nI (by omega) (by omega)), k0, k1, k2, ew, if_pos (gvp6 hw hP)]
    rw [h.meets]
    simp only [Option.bind_some]
    rw [nI_and, nI_1]
    rw [sset, ew] at ih
    exact ih
theorem saysAt_mod (h : SR T P fo tu f pf g xs ys laws) (ht : TR P N a az af arms talk) {s : Nat} (hs : s < N) {tk : Int32} (hk : Rg tk 0 60) : F_X9_saysAt (nI T) g xs ys laws arms talk (nI s) tk = some (nI (say f fo tu T xs ys talk a s tk)) := by
  have hT := h.1
  have hP := h.2.1
  have e0 : ((1 : Int32) <<< (nI T &&& 31)) - 1 = nI (sset f tu T xs ys talk s tk 0) := by
    rw [nI_shl1 T (by omega), sset]
    have := Nat.two_pow_pos T
    rw [show 2 ^ T = (2 ^ T - 1) + 1 by omega, nI_pred]
    rfl
  unfold F_X9_saysAt
  have hg := gN0_big
  have ha3 := (ht.2.2.2 s hs).2.1
  rw [e0]
  refine (saysAt_loop h ht hs _ (a s) 0 gN0 (by omega) (by omega)).trans ?_
  obtain ⟨hN, hA, -, hs2⟩ := ht
  obtain ⟨h1, h2, h3, h4⟩ := hs2 s hs
  obtain ⟨-, -, -, -, ⟨w, hw, ew⟩, harm⟩ := h4 0 (by omega)
  rw [Nat.mul_zero, Nat.add_zero] at ew harm
  have cw : (nI w).toNatClampNeg = w := nI_clamp (by omega)
  have e0 : 9 * nI s = nI (9 * s) := pk_mul 9 s
  have e1 : nI (9 * s) + 1 = nI (9 * s + 1) := nI_1 _
  have e2 : nI (9 * s) + 2 = nI (9 * s + 2) := nI_add _ 2
  have k0 : (nI (9 * s)).toNatClampNeg = 9 * s := nI_clamp (by omega)
  have k1 : (nI (9 * s + 1)).toNatClampNeg = 9 * s + 1 := nI_clamp (by omega)
  have k2 : (nI (9 * s + 2)).toNatClampNeg = 9 * s + 2 := nI_clamp (by omega)
  simp only [e0, e1, e2, if_pos (show gvp (nI (9 * s)) 54 from gvp_nI (by omega) (by omega)), if_pos (show gvp (nI (9 * s + 1)) 54 from gvp_nI (by omega) (by omega)), if_pos (show gvp (nI (9 * s + 2)) 54 from gvp_nI (by omega) (by omega)), k0, k1, k2, ew, if_pos (gvp6 hw hP), cw]
  rw [h.ahead (sset_lt _) (h.2.2.2.2.1 w hw).2.2 harm hk]
  rfl
theorem sentence_loop (h : SR T P fo tu f pf g xs ys laws) (ht : TR P N a az af arms talk) {s : Nat} (hs : s < N) {tk : Int32} (hk : Rg tk 0 60) (kk : Int32 → Int32 → Int32 → Option Int32) : ∀ (d i fu : Nat) (l m : Int32), i + d = off a N → d < fu →
    ((i ≤ off a s ∧ l = -1) ∨ (off a s < i ∧ l = nI (off a s) ∧ ∃ j, 1 ≤ j ∧ j ≤ a s ∧ (i = off a s + j ∨ (j = a s ∧ off a s + a s ≤ i)) ∧ m = nI (sset f tu T xs ys talk s tk j))) →
    FL_X8_meaningOfSentence_8 (nI T) tu f (nI P) pf az af (nI s) tk kk fu l m (nI i) = kk (nI (off a s)) (nI (sset f tu T xs ys talk s tk (a s))) (nI (off a N))
  | 0, i, fu + 1, l, m, hi, _, hst => by
    obtain ⟨hN, hA, rfl, hs2⟩ := ht
    have e : i = off a N := by omega
    have hoN : off a s + a s ≤ off a N := by
      have := off_mono a (show s + 1 ≤ N by omega)
      rw [off] at this
      exact this
    have h1 := (hs2 s hs).1
    subst e
    unfold FL_X8_meaningOfSentence_8 F_X4_size
    simp only [Option.bind_some]
    rw [if_pos (nI_le (Nat.le_refl _) (by omega))]
    rcases hst with ⟨h2, -⟩ | ⟨h2, rfl, j, j1, j2, j3, rfl⟩
    · omega
    · have : j = a s := by rcases j3 with h3 | h3 <;> omega
      rw [this]
  | d + 1, i, fu + 1, l, m, hi, hfu, hst => by
    have ih := sentence_loop h ht hs hk kk d (i + 1) fu
    obtain ⟨hN, hA, rfl, hs2⟩ := ht
    unfold FL_X8_meaningOfSentence_8 F_X4_size
    simp only [Option.bind_some]
    have hiN : i < off a N := by omega
    rw [if_neg (nI_ge hiN (by omega))]
    have gt : ∀ c, c < 4 → F_X4_get 4 (nI (off a N)) 72 af (nI i) (nI c) = some (af (4 * i + c)) := fun c hc => get_arm hA hiN hc
    rw [show F_X4_get 4 (nI (off a N)) 72 af (nI i) 0 = _ from gt 0 (by omega), show F_X4_get 4 (nI (off a N)) 72 af (nI i) 1 = _ from gt 1 (by omega), show F_X4_get 4 (nI (off a N)) 72 af (nI i) 2 = _ from gt 2 (by omega), show F_X4_get 4 (nI (off a N)) 72 af (nI i) 3 = _ from gt 3 (by omega)]
    simp only [Option.bind_some]
    obtain ⟨s', j', hs', hj', rfl⟩ := off_find a hiN
    obtain ⟨q1, q2, q3, q4⟩ := hs2 s' hs'
    obtain ⟨r1, r2, r3, r4, ⟨w, hw, ew⟩, harm⟩ := q4 j' hj'
    rw [Nat.add_zero, r1, r2, r3, r4, nI_1]
    by_cases hss : s' = s
    · subst hss
      rw [if_pos rfl, ew, h.metBy hw harm hk]
      simp only [Option.bind_some]
      have cw : (nI w).toNatClampNeg = w := nI_clamp (by have := h.2.1; omega)
      have es : sset f tu T xs ys talk s' tk (j' + 1) = sset f tu T xs ys talk s' tk j' &&& mset f tu T (xs w) (ys w) (talk (9 * s' + 3 * j' + 1)) (talk (9 * s' + 3 * j' + 2)) tk := by
        rw [sset, ew, cw]
      rcases hst with ⟨h2, rfl⟩ | ⟨h2, rfl, j, j1, j2, j3, rfl⟩
      · have hj0 : j' = 0 := by omega
        subst hj0
        rw [if_neg (by decide), if_neg (by decide)]
        refine ih _ _ (by omega) (by omega) (Or.inr ⟨by omega, rfl, 1, by omega, by omega, Or.inl (by omega), ?_⟩)
        rw [es, sset, full_and (mset_lt _ _ _ _ _ _ _ _)]
      · have hjj : j = j' := by rcases j3 with h3 | h3 <;> omega
        subst hjj
        rw [if_pos (nI_pos' (by omega)), if_pos (nI_pos' (by omega)), nI_and]
        exact ih _ _ (by omega) (by omega) (Or.inr ⟨by omega, rfl, j + 1, by omega, by omega, Or.inl (by omega), by rw [es]⟩)
    · rw [if_neg (by rw [nI_eq (by omega) (by omega)]; exact hss)]
      refine ih _ _ (by omega) (by omega) ?_
      rcases Nat.lt_or_ge s' s with hlt | hge
      · have hm := off_mono a (show s' + 1 ≤ s by omega)
        rw [off] at hm
        rcases hst with ⟨h2, rfl⟩ | ⟨h2, -⟩
        · exact Or.inl ⟨by omega, rfl⟩
        · omega
      · have hm := off_mono a (show s + 1 ≤ s' by omega)
        rw [off] at hm
        have h1 := (hs2 s hs).1
        rcases hst with ⟨h2, -⟩ | ⟨h2, rfl, j, j1, j2, j3, rfl⟩
        · omega
        · refine Or.inr ⟨by omega, rfl, j, j1, j2, ?_, rfl⟩
          rcases j3 with h3 | ⟨h3, h4⟩
          · exact Or.inr ⟨by omega, by omega⟩
          · exact Or.inr ⟨h3, by omega⟩
theorem sentence_cls (h : SR T P fo tu f pf g xs ys laws) (ht : TR P N a az af arms talk) {s : Nat} (hs : s < N) {tk : Int32} (hk : Rg tk 0 60) : F_X8_meaningOfSentence (nI T) fo tu f (nI P) pf az af (nI s) tk = some (nI (say f fo tu T xs ys talk a s tk)) := by
  have hg := gN0_big
  unfold F_X8_meaningOfSentence
  rw [show (0 : Int32) = nI 0 from rfl, sentence_loop h ht hs hk _ (off a N) 0 gN0 (-1) (nI 0) (by omega) (by have := ht.2.1; omega) (Or.inl ⟨by omega, rfl⟩)]
  obtain ⟨hN, hA, rfl, hs2⟩ := ht
  obtain ⟨h1, h2, h3, h4⟩ := hs2 s hs
  obtain ⟨r1, r2, r3, r4, -, -⟩ := h4 0 (by omega)
  have hoN : off a s + a s ≤ off a N := by
    have := off_mono a (show s + 1 ≤ N by omega)
    rw [off] at this
    exact this
  have gt : ∀ c, c < 4 → F_X4_get 4 (nI (off a N)) 72 af (nI (off a s)) (nI c) = some (af (4 * off a s + c)) := fun c hc => get_arm hA (by omega) hc
  show ((F_X4_get 4 (nI (off a N)) 72 af (nI (off a s)) (nI 2)).bind fun r1 => (F_X4_get 4 (nI (off a N)) 72 af (nI (off a s)) (nI 3)).bind fun r3 => (F_X2_narrowed (nI T) fo f (nI (sset f tu T xs ys talk s tk (a s))) r1 r3 tk).bind fun r5 => some r5) = _
  rw [gt 2 (by omega), gt 3 (by omega)]
  simp only [Option.bind_some]
  simp only [Nat.add_zero, Nat.mul_zero] at r3 r4
  rw [r3, r4, narrowed_cls h.1 (sset_lt _)]
  rfl
theorem eq_says (h : SR T P fo tu f pf g xs ys laws) (ht : TR P N a az af arms talk) (s tk : Int32) : ∃ r, F_X8_says (nI T) fo tu f (nI P) pf az af s tk = some r ∧ F_X9_says (nI T) (nI N) g xs ys laws arms talk s tk = some r := by
  have hN := ht.1
  unfold F_X8_says F_X9_says
  rw [ht.sentences, isTick_cls, isTick_mod, in_mod32, i64_of, nI_m1 (by omega)]
  simp only [Option.bind_some, gB_if]
  have c1 : (s < 0) ↔ s.toInt < 0 := gI_lt s 0
  have c2 : (nI N ≤ s) ↔ (N : Int) ≤ s.toInt := by rw [gI_le, nI_toInt (by omega)]
  show ∃ r, _ = some r ∧ (if inb s.toInt 0 (N - 1) = true then _ else _) = some r
  cases h1 : inb s.toInt 0 (N - 1)
  · refine ⟨-1, ?_, rfl⟩
    rcases inb_f.mp h1 with h2 | h2
    · rw [if_pos (c1.mpr h2)]
    · rw [if_neg (by rw [c1]; omega), if_pos (c2.mpr (by omega))]
  · have h2 := inb_t.mp h1
    obtain ⟨k, hk, rfl⟩ := inb_nI h1
    rw [if_neg (by rw [c1]; omega), if_neg (by rw [c2]; omega)]
    cases h3 : inb tk.toInt 0 60
    · exact ⟨_, rfl, rfl⟩
    · simp only [if_true]
      rw [sentence_cls h ht hk (inb_t.mp h3), saysAt_mod h ht hk (inb_t.mp h3)]
      exact ⟨_, rfl, rfl⟩
theorem dark_cls (h : SR T P fo tu f pf g xs ys laws) (ht : TR P N a az af arms talk) {tk : Int32} (hk : Rg tk 0 60) (kk : Int32 → Int32 → Option Int32) : ∀ (d i fu : Nat), i + d = N → d < fu →
    FL_X8_dark_13 (nI T) fo tu f (nI P) pf az af tk kk fu (nI (bset (fun s => !sgl (say f fo tu T xs ys talk a s tk)) i)) (nI i) = kk (nI (bset (fun s => !sgl (say f fo tu T xs ys talk a s tk)) N)) (nI N)
  | 0, i, fu + 1, hi, _ => by
    have e : i = N := by omega
    subst e
    unfold FL_X8_dark_13
    rw [ht.sentences]
    simp only [Option.bind_some]
    rw [if_pos (nI_le (Nat.le_refl _) (by have := ht.1; omega))]
  | d + 1, i, fu + 1, hi, hfu => by
    have hN := ht.1
    unfold FL_X8_dark_13
    rw [ht.sentences]
    simp only [Option.bind_some]
    rw [if_neg (nI_ge (by omega) (by omega)), sentence_cls h ht (by omega) hk]
    simp only [Option.bind_some]
    have hb : say f fo tu T xs ys talk a i tk < 1024 := Nat.lt_of_lt_of_le say_lt (Nat.pow_le_pow_right (by decide) h.1)
    rw [isOne_cls _ hb]
    simp only [Option.bind_some, gB_if]
    have ih := dark_cls h ht hk kk d (i + 1) fu (by omega) (by omega)
    rw [bset] at ih
    cases hc : sgl (say f fo tu T xs ys talk a i tk)
    · rw [hc] at ih
      rw [nI_1, nI_shl1 i (by omega), nI_or]
      simpa using ih
    · rw [hc] at ih
      rw [nI_1]
      simpa using ih
theorem dark_mod (h : SR T P fo tu f pf g xs ys laws) (ht : TR P N a az af arms talk) {tk : Int32} (hk : Rg tk 0 60) (kk : Int32 → Int32 → Option Int32) : ∀ (d i fu : Nat), i + d = N → d < fu →
    FL_X9_dark_13 (nI T) (nI N) g xs ys laws arms talk tk kk fu (nI (bset (fun s => !sgl (say f fo tu T xs ys talk a s tk)) i)) (nI i) = kk (nI (bset (fun s => !sgl (say f fo tu T xs ys talk a s tk)) N)) (nI N)
  | 0, i, fu + 1, hi, _ => by
    have e : i = N := by omega
    subst e
    unfold FL_X9_dark_13
    rw [if_pos (nI_le (Nat.le_refl _) (by have := ht.1; omega))]
  | d + 1, i, fu + 1, hi, hfu => by
    have hN := ht.1
    unfold FL_X9_dark_13
    rw [if_neg (nI_ge (by omega) (by omega)), saysAt_mod h ht (by omega) hk]
    simp only [Option.bind_some]
    have hb : say f fo tu T xs ys talk a i tk < 1024 := Nat.lt_of_lt_of_le say_lt (Nat.pow_le_pow_right (by decide) h.1)
    rw [isSingle_mod _ hb]
    simp only [Option.bind_some, gB_if]
    have ih := dark_mod h ht hk kk d (i + 1) fu (by omega) (by omega)
    rw [bset] at ih
    cases hc : sgl (say f fo tu T xs ys talk a i tk)
    · rw [hc] at ih
      rw [nI_1, nI_shl1 i (by omega), nI_or]
      simpa using ih
    · rw [hc] at ih
      rw [nI_1, nI_or0]
      simpa using ih
theorem eq_dark (h : SR T P fo tu f pf g xs ys laws) (ht : TR P N a az af arms talk) (tk : Int32) : ∃ r, F_X8_dark (nI T) fo tu f (nI P) pf az af tk = some r ∧ F_X9_dark (nI T) (nI N) g xs ys laws arms talk tk = some r := by
  have hN := ht.1
  have hg := gN0_big
  unfold F_X8_dark F_X9_dark
  rw [isTick_cls, isTick_mod]
  simp only [Option.bind_some, gB_if]
  cases h3 : inb tk.toInt 0 60
  · exact ⟨_, rfl, rfl⟩
  · have e1 := dark_cls h ht (inb_t.mp h3) (fun l2_13 _ => some l2_13) N 0 gN0 (by omega) (by omega)
    have e2 := dark_mod h ht (inb_t.mp h3) (fun l2_13 _ => some l2_13) N 0 gN0 (by omega) (by omega)
    exact ⟨_, e1, e2⟩
theorem count_loop (ht : TR P N a az af arms talk) (kk : Int32 → Int32 → Option Int32) : ∀ (d i fu : Nat), i + d = N → d < fu → FL_X9_count_4 (nI N) arms kk fu (nI (off a i)) (nI i) = kk (nI (off a N)) (nI N)
  | 0, i, fu + 1, hi, _ => by
    have e : i = N := by omega
    subst e
    unfold FL_X9_count_4
    rw [if_pos (nI_le (Nat.le_refl _) (by have := ht.1; omega))]
  | d + 1, i, fu + 1, hi, hfu => by
    have hN := ht.1
    have ha := (ht.2.2.2 i (by omega)).2.2.1
    have ci : (nI i).toNatClampNeg = i := nI_clamp (by omega)
    unfold FL_X9_count_4
    simp only [if_neg (nI_ge (show i < N by omega) (by omega)), if_pos (show gvp (nI i) 6 from gvp_nI (by omega) (by omega)), ci]
    rw [ha, nI_add, nI_1]
    exact count_loop ht kk d (i + 1) fu (by omega) (by omega)
theorem eq_count (ht : TR P N a az af arms talk) (sz pz lz oz wh : Int32) : ∃ r, F_X8_count sz pz az af lz oz wh = some r ∧ F_X9_count sz pz (nI N) lz oz arms wh = some r := by
  have hN := ht.1
  have hg := gN0_big
  unfold F_X8_count F_X9_count F_X4_size
  rw [ht.sentences]
  simp only [Option.bind_some]
  have e := count_loop ht (fun l2_4 l3_4 => if wh = 0 then (some sz) else (if wh = 1 then (some pz) else (if wh = 2 then (some (nI N)) else (if wh = 3 then (some l2_4) else (if wh = 4 then (some lz) else (if wh = 5 then (some oz) else (some (-1)))))))) N 0 gN0 (by omega) (by omega)
  rw [show nI (off a 0) = (0 : Int32) from rfl, show nI 0 = (0 : Int32) from rfl] at e
  rw [e, ht.2.2.1]
  by_cases h0 : wh = 0
  · exact ⟨sz, by rw [if_pos h0], by rw [if_pos h0]⟩
  · by_cases h1 : wh = 1
    · exact ⟨pz, by rw [if_neg h0, if_pos h1], by rw [if_neg h0, if_pos h1]⟩
    · by_cases h2 : wh = 2
      · exact ⟨nI N, by rw [if_neg h0, if_neg h1, if_pos h2], by rw [if_neg h0, if_neg h1, if_pos h2]⟩
      · by_cases h3 : wh = 3
        · exact ⟨nI (off a N), by rw [if_neg h0, if_neg h1, if_neg h2, if_pos h3], by rw [if_neg h0, if_neg h1, if_neg h2, if_pos h3]⟩
        · by_cases h4 : wh = 4
          · exact ⟨lz, by rw [if_neg h0, if_neg h1, if_neg h2, if_neg h3, if_pos h4], by rw [if_neg h0, if_neg h1, if_neg h2, if_neg h3, if_pos h4]⟩
          · by_cases h5 : wh = 5
            · exact ⟨oz, by rw [if_neg h0, if_neg h1, if_neg h2, if_neg h3, if_neg h4, if_pos h5], by rw [if_neg h0, if_neg h1, if_neg h2, if_neg h3, if_neg h4, if_pos h5]⟩
            · exact ⟨-1, by rw [if_neg h0, if_neg h1, if_neg h2, if_neg h3, if_neg h4, if_neg h5], by rw [if_neg h0, if_neg h1, if_neg h2, if_neg h3, if_neg h4, if_neg h5]⟩
end Talk
