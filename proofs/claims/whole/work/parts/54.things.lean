/-! things: the whole reading of both sides. -/
section Things
variable {n : Nat} {tb : Nat → Int32}
theorem num_1 {at_ : Int32} : F_X9_number (nI n) at_ 1 tb = some (0, at_, 1) := by
  unfold F_X9_number
  rw [if_neg (by decide)]
theorem comma_1 {p : Nat} : F_X9_comma (nI n) (nI p) 1 tb = some (nI p, 1) := by
  unfold F_X9_comma
  rw [has_1, Option.bind_some, if_pos rfl]
theorem signed_1 {p : Nat} : F_X9_signed (nI n) (nI p) 1 tb = some (0, nI p, 1) := signed_c2
/-- a fault stays -/
theorem QR.wr {tp tl at_ wr : Int32} (h : QR n tb tp tl at_ wr) : wr = 0 ∨ (wr = 1 ∧ ∃ p : Nat, at_ = nI p) := by
  obtain ⟨p, k, hp, hk, rfl, rfl, ⟨rfl, rfl, rfl⟩ | ⟨rfl, rfl, hs⟩⟩ := h
  · exact Or.inl rfl
  · exact Or.inr ⟨rfl, p, rfl⟩
theorem QR.tl {tp tl at_ : Int32} (h : QR n tb tp tl at_ 0) : tl = 0 := by
  obtain ⟨p, k, hp, hk, rfl, rfl, ⟨-, rfl, rfl⟩ | ⟨h, -, -⟩⟩ := h
  · rfl
  · exact absurd h (by decide)
theorem QR.num_w {tp tl at_ wr v a2 w2 : Int32} (h : QR n tb tp tl at_ wr) (e : F_X9_number (nI n) at_ wr tb = some (v, a2, w2)) (hw : w2 = 0) : wr = 0 := by
  rcases h.wr with h | ⟨rfl, p, rfl⟩
  · exact h
  · rw [num_1] at e
    cases e
    exact absurd hw (by decide)
theorem QR.comma_w {tp tl at_ wr a2 w2 : Int32} (h : QR n tb tp tl at_ wr) (e : F_X9_comma (nI n) at_ wr tb = some (a2, w2)) (hw : w2 = 0) : wr = 0 := by
  rcases h.wr with h | ⟨rfl, p, rfl⟩
  · exact h
  · rw [comma_1] at e
    cases e
    exact absurd hw (by decide)
theorem QR.digit_w {tp tl at_ wr v a2 w2 m : Int32} (h : QR n tb tp tl at_ wr) (e : F_X9_digit (nI n) at_ wr tb m = some (v, a2, w2)) (hw : w2 = 0) : wr = 0 := by
  rcases h.wr with h | ⟨rfl, p, rfl⟩
  · exact h
  · rw [digit_1] at e
    cases e
    exact absurd hw (by decide)
theorem QR.signed_w {tp tl at_ wr v a2 w2 : Int32} (h : QR n tb tp tl at_ wr) (e : F_X9_signed (nI n) at_ wr tb = some (v, a2, w2)) (hw : w2 = 0) : wr = 0 := by
  rcases h.wr with h | ⟨rfl, p, rfl⟩
  · exact h
  · rw [signed_1] at e
    cases e
    exact absurd hw (by decide)
/-- one thing is read -/
theorem QR.thing (hn : n ≤ 100) (hb : ∀ i, i < n → Rg (tb i) 32 126) {tp tl at_ wr : Int32} (h : QR n tb tp tl at_ wr) : ∃ (x y b x' y' b' tp' tl' at' wr' : Int32) (m1 m2 m3 m4 w1 w2 w3 w4 : Int32), (∀ (k : Nat) (yf : Nat → Int32), k < 10 → F_X8_readThing (nI n) tp tl tb (nI k) yf = some (tp', tl', nI (k + 1), thR yf k x y b)) ∧ F_X9_number (nI n) at_ wr tb = some (x', m1, w1) ∧ F_X9_comma (nI n) m1 w1 tb = some (m2, w2) ∧ F_X9_number (nI n) m2 w2 tb = some (y', m3, w3) ∧ F_X9_comma (nI n) m3 w3 tb = some (m4, w4) ∧ F_X9_digit (nI n) m4 w4 tb 5 = some (b', at', wr') ∧ QR n tb tp' tl' at' wr' ∧ (wr' = 0 → wr = 0 ∧ x' = x ∧ y' = y ∧ b' = b ∧ pt x y ∧ Rg b 0 5) := by
  obtain ⟨x, x', p1, l1, m1, w1, a1, a2, a3, a4⟩ := QR.number hn hb h
  obtain ⟨p2, l2, m2, w2, b1, b2, b3⟩ := QR.comma hn a3
  obtain ⟨y, y', p3, l3, m3, w3, c1, c2, c3, c4⟩ := QR.number hn hb b3
  obtain ⟨p4, l4, m4, w4, d1, d2, d3⟩ := QR.comma hn c3
  obtain ⟨b, p5, l5, m5, w5, e1, e2, e3, e4, e5⟩ := QR.digit hn hb d3 (m := 5) ⟨by decide, by decide⟩
  refine ⟨x, y, b, x', y', b, p5, l5, m5, w5, m1, m2, m3, m4, w1, w2, w3, w4, ?_, a2, b2, c2, d2, e2, e3, ?_⟩
  · intro k yf hk
    unfold F_X8_readThing
    rw [a1]
    simp only [Option.bind_some]
    rw [b1]
    simp only [Option.bind_some]
    rw [c1]
    simp only [Option.bind_some]
    rw [d1]
    simp only [Option.bind_some]
    rw [e1]
    simp only [Option.bind_some]
    rw [addThing_cls hk]
    rfl
  · intro hw
    have w4' := d3.digit_w e2 hw
    have w3' := c3.comma_w d2 w4'
    have w2' := b3.num_w c2 w3'
    have w1' := a3.comma_w b2 w2'
    have w0' := h.num_w a2 w1'
    obtain ⟨q1, q2⟩ := a4 w1'
    obtain ⟨q3, q4⟩ := c4 w3'
    have q5 := e5 hw
    have q6 : (5 : Int32).toInt = 5 := rfl
    exact ⟨w0', q1.symm, q3.symm, rfl, ⟨q2, q4⟩, e4.1, by omega⟩
/-- the rows that were read: class and model -/
def YR (k : Nat) (yf rd : Nat → Int32) : Prop := ∀ t, t < k → yf (5 * t) = rd (3 * t) ∧ yf (5 * t + 1) = rd (3 * t + 1) ∧ yf (5 * t + 2) = rd (3 * t + 2) ∧ yf (5 * t + 3) = 0 ∧ yf (5 * t + 4) = 0 ∧ pt (rd (3 * t)) (rd (3 * t + 1)) ∧ Rg (rd (3 * t + 2)) 0 5
theorem YR.add {k : Nat} {yf rd : Nat → Int32} (h : YR k yf rd) {x y b : Int32} (hp : pt x y) (hb : Rg b 0 5) : YR (k + 1) (thR yf k x y b) (upd (upd (upd rd (3 * k) x) (3 * k + 1) y) (3 * k + 2) b) := by
  intro t ht
  simp only [thR_at, upd]
  by_cases e : t = k
  · subst e
    rw [if_neg (show ¬ 5 * t = 5 * t + 2 by omega), if_neg (show ¬ 5 * t = 5 * t + 1 by omega), if_pos rfl, if_neg (show ¬ 5 * t + 1 = 5 * t + 2 by omega), if_pos rfl, if_pos rfl, if_neg (show ¬ 5 * t + 3 = 5 * t + 2 by omega), if_neg (show ¬ 5 * t + 3 = 5 * t + 1 by omega), if_neg (show ¬ 5 * t + 3 = 5 * t by omega), if_pos (show 5 * t ≤ 5 * t + 3 ∧ 5 * t + 3 < 5 * t + 5 by omega), if_neg (show ¬ 5 * t + 4 = 5 * t + 2 by omega), if_neg (show ¬ 5 * t + 4 = 5 * t + 1 by omega), if_neg (show ¬ 5 * t + 4 = 5 * t by omega), if_pos (show 5 * t ≤ 5 * t + 4 ∧ 5 * t + 4 < 5 * t + 5 by omega), if_neg (show ¬ 3 * t = 3 * t + 2 by omega), if_neg (show ¬ 3 * t = 3 * t + 1 by omega), if_pos rfl, if_neg (show ¬ 3 * t + 1 = 3 * t + 2 by omega), if_pos rfl, if_pos rfl]
    exact ⟨rfl, rfl, rfl, rfl, rfl, hp, hb⟩
  · have q := h t (by omega)
    have z : ∀ c, c < 5 → (if 5 * t + c = 5 * k + 2 then b else if 5 * t + c = 5 * k + 1 then y else if 5 * t + c = 5 * k then x else if 5 * k ≤ 5 * t + c ∧ 5 * t + c < 5 * k + 5 then 0 else yf (5 * t + c)) = yf (5 * t + c) := by
      intro c hc
      rw [if_neg (by omega), if_neg (by omega), if_neg (by omega), if_neg (by omega)]
    have z' : ∀ c, c < 3 → (if 3 * t + c = 3 * k + 2 then b else if 3 * t + c = 3 * k + 1 then y else if 3 * t + c = 3 * k then x else rd (3 * t + c)) = rd (3 * t + c) := by
      intro c hc
      rw [if_neg (by omega), if_neg (by omega), if_neg (by omega)]
    have z0 := z 0 (by omega)
    have z0' := z' 0 (by omega)
    rw [Nat.add_zero] at z0 z0'
    rw [z0, z 1 (by omega), z 2 (by omega), z 3 (by omega), z 4 (by omega), z0', z' 1 (by omega), z' 2 (by omega)]
    exact q
theorem things_loop (hn : n ≤ 100) (hb : ∀ i, i < n → Rg (tb i) 32 126) (kc : Int32 → Int32 → Int32 → Int32 → (Nat → Int32) → Option (Int32 × Int32 × (Nat → Int32) × Int32 × Int32 × Int32 × Int32 × (Nat → Int32))) (km : Int32 → Int32 → Int32 → Int32 → (Nat → Int32) → Option (Int32 × Int32 × Int32 × Int32 × Int32 × (Nat → Int32) × (Nat → Int32))) : ∀ (d k fu fu' : Nat) (tp tl at_ wr : Int32) (yf rd : Nat → Int32), k + d = 4 → d < fu → d + 1 < fu' → QR n tb tp tl at_ wr → (wr = 0 → YR k yf rd) → ∃ (k' : Nat) (i' tp' tl' at' wr' : Int32) (yf' rd' : Nat → Int32), k' ≤ 5 ∧ FL_X8_things_16 (nI n) tb kc fu (nI (k + 1)) tp tl (nI k) yf = kc i' tp' tl' (nI k') yf' ∧ FL_X9_things_14 (nI n) tb km fu' (nI k) 1 at_ wr rd = km (nI k') 0 at' wr' rd' ∧ QR n tb tp' tl' at' wr' ∧ (wr' = 0 → YR k' yf' rd') := by
  intro d
  induction d with
  | zero =>
    intro k fu fu' tp tl at_ wr yf rd hk hfu hfu' h hY
    obtain ⟨fu, rfl⟩ : ∃ g, fu = g + 1 := ⟨fu - 1, by omega⟩
    obtain ⟨fu', rfl⟩ : ∃ g, fu' = g + 2 := ⟨fu' - 2, by omega⟩
    have e : k = 4 := by omega
    subst e
    obtain ⟨x, y, b, x', y', b', tp', tl', at', wr', m1, m2, m3, m4, w1, w2, w3, w4, a1, a2, a3, a4, a5, a6, a7, a8⟩ := QR.thing hn hb h
    refine ⟨5, nI 5, tp', tl', at', wr', thR yf 4 x y b, upd (upd (upd rd (3 * 4) x') (3 * 4 + 1) y') (3 * 4 + 2) b', by omega, ?_, ?_, a7, ?_⟩
    · unfold FL_X8_things_16
      rw [if_neg (by decide), a1 4 yf (by omega)]
      simp only [Option.bind_some]
      rw [if_pos (by decide)]
    · unfold FL_X9_things_14
      rw [if_neg (by decide), a2]
      simp only [Option.bind_some]
      rw [if_pos (show gvp (3 * nI 4) 54 from gvp_nI (k := 12) (by omega) (by omega)), a3]
      simp only [Option.bind_some]
      rw [a4]
      simp only [Option.bind_some]
      rw [if_pos (show gvp (3 * nI 4 + 1) 54 from gvp_nI (k := 13) (by omega) (by omega)), a5]
      simp only [Option.bind_some]
      rw [a6]
      simp only [Option.bind_some]
      rw [if_pos (show gvp (3 * nI 4 + 2) 54 from gvp_nI (k := 14) (by omega) (by omega)), if_pos (by decide)]
      unfold FL_X9_things_14
      rw [if_pos rfl]
      rfl
    · intro hw
      obtain ⟨q1, rfl, rfl, rfl, q5, q6⟩ := a8 hw
      exact (hY q1).add q5 q6
  | succ d ih =>
    intro k fu fu' tp tl at_ wr yf rd hk hfu hfu' h hY
    obtain ⟨fu, rfl⟩ : ∃ g, fu = g + 1 := ⟨fu - 1, by omega⟩
    obtain ⟨fu', rfl⟩ : ∃ g, fu' = g + 2 := ⟨fu' - 2, by omega⟩
    obtain ⟨x, y, b, x', y', b', tp', tl', at', wr', m1, m2, m3, m4, w1, w2, w3, w4, a1, a2, a3, a4, a5, a6, a7, a8⟩ := QR.thing hn hb h
    obtain ⟨t, tp2, at2, t1, t2, t3, t4⟩ := QR.takes hn a7 (c := 59) (by decide) (by decide)
    have e0 : 3 * nI k = nI (3 * k) := pk_mul 3 k
    have e1 : nI (3 * k) + 1 = nI (3 * k + 1) := nI_1 _
    have e2 : nI (3 * k) + 2 = nI (3 * k + 2) := nI_add _ 2
    have k0 : (nI (3 * k)).toNatClampNeg = 3 * k := nI_clamp (by omega)
    have k1 : (nI (3 * k + 1)).toNatClampNeg = 3 * k + 1 := nI_clamp (by omega)
    have k2 : (nI (3 * k + 2)).toNatClampNeg = 3 * k + 2 := nI_clamp (by omega)
    have hY' : wr' = 0 → YR (k + 1) (thR yf k x y b) (upd (upd (upd rd (3 * k) x') (3 * k + 1) y') (3 * k + 2) b') := by
      intro hw
      obtain ⟨q1, rfl, rfl, rfl, q5, q6⟩ := a8 hw
      exact (hY q1).add q5 q6
    have cls : FL_X8_things_16 (nI n) tb kc (fu + 1) (nI (k + 1)) tp tl (nI k) yf = if t = true then FL_X8_things_16 (nI n) tb kc fu (nI (k + 1 + 1)) tp2 tl' (nI (k + 1)) (thR yf k x y b) else kc (nI (k + 1)) tp2 tl' (nI (k + 1)) (thR yf k x y b) := by
      conv => lhs; unfold FL_X8_things_16
      rw [if_neg (show ¬ (5 : Int32) < nI (k + 1) from nI_nlt (b := k + 1) (a := 5) (by omega) (by omega)), a1 k yf (by omega)]
      simp only [Option.bind_some]
      rw [if_neg (show ¬ nI (k + 1) = 5 from fun e => by
        have := (nI_eq (b := 5) (by omega) (by omega)).mp e
        omega), t1]
      simp only [Option.bind_some, gB_if, nI_1]
    have mdl : FL_X9_things_14 (nI n) tb km (fu' + 2) (nI k) 1 at_ wr rd = if t = true then FL_X9_things_14 (nI n) tb km (fu' + 1) (nI (k + 1)) 1 at2 wr' (upd (upd (upd rd (3 * k) x') (3 * k + 1) y') (3 * k + 2) b') else km (nI (k + 1)) 0 at2 wr' (upd (upd (upd rd (3 * k) x') (3 * k + 1) y') (3 * k + 2) b') := by
      conv => lhs; unfold FL_X9_things_14
      rw [if_neg (by decide), a2]
      simp only [Option.bind_some, e0, e1, e2, if_pos (show gvp (nI (3 * k)) 54 from gvp_nI (by omega) (by omega)), if_pos (show gvp (nI (3 * k + 1)) 54 from gvp_nI (by omega) (by omega)), if_pos (show gvp (nI (3 * k + 2)) 54 from gvp_nI (by omega) (by omega)), k0, k1, k2]
      rw [a3]
      simp only [Option.bind_some]
      rw [a4]
      simp only [Option.bind_some]
      rw [a5]
      simp only [Option.bind_some]
      rw [a6]
      simp only [Option.bind_some]
      rw [nI_1, if_neg (show ¬ (5 : Int32) ≤ nI (k + 1) from nI_ge (b := 5) (by omega) (by omega)), t2]
      simp only [Option.bind_some, gB_if]
      cases t
      · rw [if_neg (by decide), if_neg (by decide)]
        unfold FL_X9_things_14
        rw [if_pos rfl]
      · rw [if_pos rfl, if_pos rfl]
    rw [cls, mdl]
    cases t
    · exact ⟨k + 1, _, _, _, _, _, _, _, by omega, rfl, rfl, t3, hY'⟩
    · rw [if_pos rfl, if_pos rfl]
      exact ih (k + 1) fu (fu' + 1) tp2 tl' at2 wr' _ _ (by omega) (by omega) (by omega) t3 hY'
theorem comes_loop {K : Nat} {yf rd : Nat → Int32} (hK : K ≤ 5) (hY : YR K yf rd) (kk : Int32 → (Nat → Int32) → Option (Int32 × Int32 × Int32 × Int32 × Int32 × (Nat → Int32) × (Nat → Int32))) : ∀ (d t fu : Nat) (g : Nat → Int32), t + d = K → d < fu → (∀ i, i < 5 * t → g i = yf i) → ∃ g' : Nat → Int32, FL_X9_things_143 (nI K) rd kk fu (nI t) g = kk (nI K) g' ∧ ∀ i, i < 5 * K → g' i = yf i
  | 0, t, fu + 1, g, ht, _, hg => by
    have e : t = K := by omega
    subst e
    refine ⟨g, ?_, hg⟩
    unfold FL_X9_things_143
    rw [if_pos (nI_le (Nat.le_refl _) (by omega))]
  | d + 1, t, fu + 1, g, ht, hfu, hg => by
    obtain ⟨y0, y1, y2, y3, y4, -⟩ := hY t (by omega)
    have e0 : 3 * nI t = nI (3 * t) := pk_mul 3 t
    have e1 : nI (3 * t) + 1 = nI (3 * t + 1) := nI_1 _
    have e2 : nI (3 * t) + 2 = nI (3 * t + 2) := nI_add _ 2
    have k0 : (nI (3 * t)).toNatClampNeg = 3 * t := nI_clamp (by omega)
    have k1 : (nI (3 * t + 1)).toNatClampNeg = 3 * t + 1 := nI_clamp (by omega)
    have k2 : (nI (3 * t + 2)).toNatClampNeg = 3 * t + 2 := nI_clamp (by omega)
    obtain ⟨g', h1, h2⟩ := comes_loop hK hY kk d (t + 1) fu (upd (upd (upd (upd (upd g (5 * t) (rd (3 * t))) (5 * t + 1) (rd (3 * t + 1))) (5 * t + 2) (rd (3 * t + 2))) (5 * t + 3) 0) (5 * t + 4) 0) (by omega) (by omega) (by
      intro i hi
      unfold upd
      by_cases c4 : i = 5 * t + 4
      · rw [if_pos c4, c4, y4]
      · rw [if_neg c4]
        by_cases c3 : i = 5 * t + 3
        · rw [if_pos c3, c3, y3]
        · rw [if_neg c3]
          by_cases c2 : i = 5 * t + 2
          · rw [if_pos c2, c2, y2]
          · rw [if_neg c2]
            by_cases c1 : i = 5 * t + 1
            · rw [if_pos c1, c1, y1]
            · rw [if_neg c1]
              by_cases c0 : i = 5 * t
              · rw [if_pos c0, c0, y0]
              · rw [if_neg c0]
                exact hg i (by omega))
    refine ⟨g', ?_, h2⟩
    rw [← h1]
    conv => lhs; unfold FL_X9_things_143
    simp only [if_neg (nI_ge (a := t) (b := K) (by omega) (by omega)), e0, e1, e2, if_pos (show gvp (nI (3 * t)) 54 from gvp_nI (by omega) (by omega)), if_pos (show gvp (nI (3 * t + 1)) 54 from gvp_nI (by omega) (by omega)), if_pos (show gvp (nI (3 * t + 2)) 54 from gvp_nI (by omega) (by omega)), k0, k1, k2]
    rw [comes_mod (by omega)]
    simp only [Option.bind_some, nI_1]
end Things
