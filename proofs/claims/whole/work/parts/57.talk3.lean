/-! talk: the loop over sentences, the end. -/
theorem off_congr {a b : Nat → Nat} : ∀ {k : Nat}, (∀ s, s < k → a s = b s) → off a k = off b k
  | 0, _ => rfl
  | k + 1, h => by
    rw [off, off, off_congr (fun s hs => h s (by omega)), h k (by omega)]
theorem off_le3 {a : Nat → Nat} : ∀ {k : Nat}, (∀ s, s < k → a s ≤ 3) → off a k ≤ 3 * k
  | 0, _ => Nat.le_refl _
  | k + 1, h => by
    have h1 := off_le3 (k := k) (fun s hs => h s (by omega))
    have h2 := h k (by omega)
    rw [off]
    omega
/-- the counts of arms, as the model has them -/
def CA (k : Nat) (a : Nat → Nat) (ra : Nat → Int32) : Prop := ∀ s, s < k → 1 ≤ a s ∧ a s ≤ 3 ∧ ra s = nI (a s)
section Talk3
variable {n : Nat} {tb : Nat → Int32}
theorem talk_step (hn : n ≤ 100) (hb : ∀ i, i < n → Rg (tb i) 32 126) {P k : Nat} (hP : P ≤ 6) (hk : k < 6) (km : Int32 → Int32 → Int32 → (Nat → Int32) → (Nat → Int32) → Option (Int32 × Int32 × Int32 × Int32 × Int32 × (Nat → Int32) × (Nat → Int32) × (Nat → Int32) × (Nat → Int32))) {a : Nat → Nat} {tp tl at_ wr : Int32} {xf rd ra : Nat → Int32} (h : QR n tb tp tl at_ wr) (hC : CA k a ra) (hR : wr = 0 → ∀ s, s < k → ∀ j, j < a s → RW P s j (off a s + j) xf rd) : ∃ (a' : Nat → Nat) (tp' tl' at' wr' : Int32) (xf' rd' ra' : Nat → Int32), F_X8_readSentence (nI P) (nI n) tp tl tb (nI (off a k)) xf (nI k) = some (tp', tl', nI (off a' (k + 1)), xf') ∧ FL_X9_talk_27 (nI P) (nI n) tb (nI k) km gN0 1 at_ wr rd (upd ra k 0) = km 0 at' wr' rd' ra' ∧ QR n tb tp' tl' at' wr' ∧ CA (k + 1) a' ra' ∧ (wr' = 0 → ∀ s, s < k + 1 → ∀ j, j < a' s → RW P s j (off a' s + j) xf' rd') := by
  have hg := gN0_big
  have ho : off a k ≤ 15 := by
    have := off_le3 (fun s hs => (hC s hs).2.1)
    omega
  obtain ⟨J, i', tp', tl', at', wr', xf', rd', ra', b1, b2, b3, b4, b5, b6, b7, b8, b9, b10⟩ := sent_loop hn hb hP hk ho (fun l2_2 w26_2_2 w26_3_2 w30_3_2 a31_2 => some (w26_2_2, w26_3_2, w30_3_2, a31_2)) km 2 0 gN0 gN0 tp tl at_ wr xf rd (upd ra k 0) (by omega) (by omega) (by omega) h (upd_self _ _ _)
  have ea : ∀ s, s ≤ k → off (fun t => if t = k then J else a t) s = off a s := fun s hs => off_congr (fun t ht => if_neg (by omega))
  have eak : off (fun t => if t = k then J else a t) (k + 1) = off a k + J := by
    rw [off, ea k (Nat.le_refl _), if_pos rfl]
  refine ⟨fun t => if t = k then J else a t, tp', tl', at', wr', xf', rd', ra', ?_, b4, b5, ?_, ?_⟩
  · unfold F_X8_readSentence
    rw [eak]
    exact b3
  · intro s hs
    by_cases e : s = k
    · subst e
      simp only [if_true]
      exact ⟨by omega, b2, b6⟩
    · simp only [if_neg e]
      obtain ⟨q1, q2, q3⟩ := hC s (by omega)
      exact ⟨q1, q2, by rw [b7 s e, upd_ne _ _ e, q3]⟩
  · intro hw s hs j hj
    obtain ⟨w0, q⟩ := b10 hw
    by_cases e : s = k
    · subst e
      simp only [if_true] at hj
      rw [ea s (Nat.le_refl _)]
      exact q j (by omega) hj
    · simp only [if_neg e] at hj
      rw [ea s (by omega)]
      obtain ⟨q1, q2, q3⟩ := hC s (by omega)
      have hm := off_mono a (show s + 1 ≤ k by omega)
      rw [off] at hm
      exact (hR w0 s (by omega) j hj).congr (fun i hi => b8 i (by omega)) (fun i hi => b9 i (by omega))
theorem talk_loop (hn : n ≤ 100) (hb : ∀ i, i < n → Rg (tb i) 32 126) {P : Nat} (hP : P ≤ 6) (kc : Int32 → Int32 → Int32 → Int32 → (Nat → Int32) → Option (Int32 × Int32 × (Nat → Int32) × Int32 × Int32 × Int32 × Int32 × (Nat → Int32))) (km : Int32 → Int32 → Int32 → Int32 → (Nat → Int32) → (Nat → Int32) → Option (Int32 × Int32 × Int32 × Int32 × Int32 × (Nat → Int32) × (Nat → Int32) × (Nat → Int32) × (Nat → Int32))) : ∀ (d k fu fu' : Nat) (a : Nat → Nat) (tp tl at_ wr : Int32) (xf rd ra : Nat → Int32), k + d = 5 → d < fu → d + 1 < fu' → QR n tb tp tl at_ wr → CA k a ra → (wr = 0 → ∀ s, s < k → ∀ j, j < a s → RW P s j (off a s + j) xf rd) → ∃ (N : Nat) (a' : Nat → Nat) (i' tp' tl' at' wr' : Int32) (xf' rd' ra' : Nat → Int32), N ≤ 6 ∧ FL_X8_talk_16 (nI P) (nI n) tb kc fu (nI (k + 1)) tp tl (nI (off a k)) xf = kc i' tp' tl' (nI (off a' N)) xf' ∧ FL_X9_talk_14 (nI P) (nI n) tb km fu' (nI k) 1 at_ wr rd ra = km (nI N) 0 at' wr' rd' ra' ∧ QR n tb tp' tl' at' wr' ∧ CA N a' ra' ∧ (wr' = 0 → ∀ s, s < N → ∀ j, j < a' s → RW P s j (off a' s + j) xf' rd') := by
  intro d
  induction d with
  | zero =>
    intro k fu fu' a tp tl at_ wr xf rd ra hk hfu hfu' h hC hR
    obtain ⟨fu, rfl⟩ : ∃ g, fu = g + 1 := ⟨fu - 1, by omega⟩
    obtain ⟨fu', rfl⟩ : ∃ g, fu' = g + 2 := ⟨fu' - 2, by omega⟩
    have e : k = 5 := by omega
    subst e
    have ck : (nI 5).toNatClampNeg = 5 := nI_clamp (by omega)
    obtain ⟨a', tp', tl', at', wr', xf', rd', ra', c1, c2, c3, c4, c5⟩ := talk_step hn hb hP (by omega) (fun l3_27 w0_18_27 w0_19_27 a12_27 a13_27 => if 6 ≤ (nI 5 + 1) then (FL_X9_talk_14 (nI P) (nI n) tb km (fu' + 1) (nI 5 + 1) 0 w0_18_27 w0_19_27 a12_27 a13_27) else ((F_X9_has (nI n) w0_18_27 w0_19_27 tb 59).bind fun r1144 => if r1144.1 = 0 then (FL_X9_talk_14 (nI P) (nI n) tb km (fu' + 1) (nI 5 + 1) 0 r1144.2 w0_19_27 a12_27 a13_27) else (FL_X9_talk_14 (nI P) (nI n) tb km (fu' + 1) (nI 5 + 1) 1 r1144.2 w0_19_27 a12_27 a13_27))) h hC hR
    refine ⟨6, a', nI 6, tp', tl', at', wr', xf', rd', ra', by omega, ?_, ?_, c3, c4, c5⟩
    · unfold FL_X8_talk_16
      rw [if_neg (by decide), show nI (5 + 1) - 1 = nI 5 from by decide, c1]
      simp only [Option.bind_some]
      rw [if_pos (by decide)]
    · unfold FL_X9_talk_14
      rw [if_neg (by decide), if_pos (show gvp (nI 5) 6 from gvp_nI (by omega) (by omega)), ck]
      refine c2.trans ?_
      rw [if_pos (by decide)]
      unfold FL_X9_talk_14
      rw [if_pos rfl]
      rfl
  | succ d ih =>
    intro k fu fu' a tp tl at_ wr xf rd ra hk hfu hfu' h hC hR
    obtain ⟨fu, rfl⟩ : ∃ g, fu = g + 1 := ⟨fu - 1, by omega⟩
    obtain ⟨fu', rfl⟩ : ∃ g, fu' = g + 2 := ⟨fu' - 2, by omega⟩
    have ck : (nI k).toNatClampNeg = k := nI_clamp (by omega)
    obtain ⟨a', tp', tl', at', wr', xf', rd', ra', c1, c2, c3, c4, c5⟩ := talk_step hn hb hP (show k < 6 by omega) (fun l3_27 w0_18_27 w0_19_27 a12_27 a13_27 => if 6 ≤ (nI k + 1) then (FL_X9_talk_14 (nI P) (nI n) tb km (fu' + 1) (nI k + 1) 0 w0_18_27 w0_19_27 a12_27 a13_27) else ((F_X9_has (nI n) w0_18_27 w0_19_27 tb 59).bind fun r1144 => if r1144.1 = 0 then (FL_X9_talk_14 (nI P) (nI n) tb km (fu' + 1) (nI k + 1) 0 r1144.2 w0_19_27 a12_27 a13_27) else (FL_X9_talk_14 (nI P) (nI n) tb km (fu' + 1) (nI k + 1) 1 r1144.2 w0_19_27 a12_27 a13_27))) h hC hR
    obtain ⟨t, tp2, at2, t1, t2, t3, t4⟩ := QR.takes hn c3 (c := 59) (by decide) (by decide)
    have cls : FL_X8_talk_16 (nI P) (nI n) tb kc (fu + 1) (nI (k + 1)) tp tl (nI (off a k)) xf = if t = true then FL_X8_talk_16 (nI P) (nI n) tb kc fu (nI (k + 1 + 1)) tp2 tl' (nI (off a' (k + 1))) xf' else kc (nI (k + 1)) tp2 tl' (nI (off a' (k + 1))) xf' := by
      conv => lhs; unfold FL_X8_talk_16
      rw [if_neg (show ¬ (6 : Int32) < nI (k + 1) from nI_nlt (b := k + 1) (a := 6) (by omega) (by omega)), nI_pred, c1]
      simp only [Option.bind_some]
      rw [if_neg (show ¬ nI (k + 1) = 6 from fun e => by
        have := (nI_eq (b := 6) (by omega) (by omega)).mp e
        omega), t1]
      simp only [Option.bind_some, gB_if, nI_1]
    have mdl : FL_X9_talk_14 (nI P) (nI n) tb km (fu' + 2) (nI k) 1 at_ wr rd ra = if t = true then FL_X9_talk_14 (nI P) (nI n) tb km (fu' + 1) (nI (k + 1)) 1 at2 wr' rd' ra' else km (nI (k + 1)) 0 at2 wr' rd' ra' := by
      conv => lhs; unfold FL_X9_talk_14
      rw [if_neg (by decide), if_pos (show gvp (nI k) 6 from gvp_nI (by omega) (by omega)), ck]
      refine c2.trans ?_
      simp only [nI_1]
      rw [if_neg (show ¬ (6 : Int32) ≤ nI (k + 1) from nI_ge (b := 6) (by omega) (by omega)), t2]
      simp only [Option.bind_some, gB_if]
      cases t
      · rw [if_neg (by decide), if_neg (by decide)]
        unfold FL_X9_talk_14
        rw [if_pos rfl]
      · rw [if_pos rfl, if_pos rfl]
    rw [cls, mdl]
    cases t
    · exact ⟨k + 1, a', _, _, _, _, _, _, _, _, by omega, rfl, rfl, t3, c4, c5⟩
    · rw [if_pos rfl, if_pos rfl]
      exact ih (k + 1) fu (fu' + 1) a' tp2 tl' at2 wr' xf' rd' ra' (by omega) (by omega) (by omega) t3 c4 c5
theorem arms_loop {N : Nat} {ra : Nat → Int32} (hN : N ≤ 6) (kk : Int32 → (Nat → Int32) → Option (Int32 × Int32 × Int32 × Int32 × Int32 × (Nat → Int32) × (Nat → Int32) × (Nat → Int32) × (Nat → Int32))) : ∀ (d t fu : Nat) (g : Nat → Int32), t + d = N → d < fu → (∀ i, i < t → g i = ra i) → ∃ g' : Nat → Int32, FL_X9_talk_163 (nI N) ra kk fu (nI t) g = kk (nI N) g' ∧ ∀ i, i < N → g' i = ra i
  | 0, t, fu + 1, g, ht, _, hg => by
    have e : t = N := by omega
    subst e
    refine ⟨g, ?_, hg⟩
    unfold FL_X9_talk_163
    rw [if_pos (nI_le (Nat.le_refl _) (by omega))]
  | d + 1, t, fu + 1, g, ht, hfu, hg => by
    have k0 : (nI t).toNatClampNeg = t := nI_clamp (by omega)
    obtain ⟨g', h1, h2⟩ := arms_loop (ra := ra) hN kk d (t + 1) fu (upd g t (ra t)) (by omega) (by omega) (by
      intro i hi
      by_cases e : i = t
      · rw [e, upd_self]
      · rw [upd_ne _ _ e]
        exact hg i (by omega))
    refine ⟨g', ?_, h2⟩
    rw [← h1]
    conv => lhs; unfold FL_X9_talk_163
    simp only [if_neg (nI_ge (a := t) (b := N) (by omega) (by omega)), if_pos (show gvp (nI t) 6 from gvp_nI (by omega) (by omega)), k0, nI_1]
theorem rows_loop {rd : Nat → Int32} (kk : Int32 → (Nat → Int32) → Option (Int32 × Int32 × Int32 × Int32 × Int32 × (Nat → Int32) × (Nat → Int32) × (Nat → Int32) × (Nat → Int32))) : ∀ (d t fu : Nat) (g : Nat → Int32), t + d = 54 → d < fu → (∀ i, i < t → g i = rd i) → ∃ g' : Nat → Int32, FL_X9_talk_188 rd kk fu (nI t) g = kk (nI 54) g' ∧ ∀ i, i < 54 → g' i = rd i
  | 0, t, fu + 1, g, ht, _, hg => by
    have e : t = 54 := by omega
    subst e
    refine ⟨g, ?_, hg⟩
    unfold FL_X9_talk_188
    rw [if_pos (by decide)]
  | d + 1, t, fu + 1, g, ht, hfu, hg => by
    have k0 : (nI t).toNatClampNeg = t := nI_clamp (by omega)
    obtain ⟨g', h1, h2⟩ := rows_loop (rd := rd) kk d (t + 1) fu (upd g t (rd t)) (by omega) (by omega) (by
      intro i hi
      by_cases e : i = t
      · rw [e, upd_self]
      · rw [upd_ne _ _ e]
        exact hg i (by omega))
    refine ⟨g', ?_, h2⟩
    rw [← h1]
    conv => lhs; unfold FL_X9_talk_188
    simp only [if_neg (show ¬ (54 : Int32) ≤ nI t from nI_ge (b := 54) (by omega) (by omega)), if_pos (show gvp (nI t) 54 from gvp_nI (by omega) (by omega)), k0, nI_1]
end Talk3
