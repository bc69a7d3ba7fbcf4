/-! talk: the whole reading of both sides. -/
/-- a row of an arm -/
def armR (xf : Nat → Int32) (c : Nat) (s w dx dy : Int32) : Nat → Int32 := upd (upd (upd (upd (zr xf (c * 4) 4) (c * 4 + 0) s) (c * 4 + 1) w) (c * 4 + 2) dx) (c * 4 + 3) dy
theorem armR_at {xf : Nat → Int32} {c i : Nat} {s w dx dy : Int32} : armR xf c s w dx dy i = if i = 4 * c + 3 then dy else if i = 4 * c + 2 then dx else if i = 4 * c + 1 then w else if i = 4 * c then s else xf i := by
  unfold armR zr upd
  rw [Nat.mul_comm]
  by_cases h1 : i = 4 * c + 3
  · rw [if_pos h1, if_pos h1]
  · rw [if_neg h1, if_neg h1]
    by_cases h2 : i = 4 * c + 2
    · rw [if_pos h2, if_pos h2]
    · rw [if_neg h2, if_neg h2]
      by_cases h3 : i = 4 * c + 1
      · rw [if_pos h3, if_pos h3]
      · rw [if_neg h3, if_neg h3, Nat.add_zero]
        by_cases h4 : i = 4 * c
        · rw [if_pos h4, if_pos h4]
        · rw [if_neg h4, if_neg h4]
          exact if_neg (by omega)
section Talk2
variable {n : Nat} {tb : Nat → Int32}
/-- where the next sign stands -/
theorem QR.place (hn : n ≤ 100) {tp tl at_ wr : Int32} (h : QR n tb tp tl at_ wr) : ∃ (q tp' at' z : Int32), F_X7_placeOfNext (nI n) tp tb = some (q, tp') ∧ F_X9_here (nI n) at_ tb = some (z, at') ∧ QR n tb tp' tl at' wr ∧ (wr = 0 → ∃ p : Nat, p ≤ n ∧ (p = n ∨ tb p ≠ 32) ∧ q = nI p ∧ at' = nI p) := by
  unfold F_X7_placeOfNext
  obtain ⟨p, k, hp, hk, rfl, rfl, ⟨rfl, rfl, rfl⟩ | ⟨rfl, rfl, hs⟩⟩ := h
  · have s := sk_spec (tb := tb) hp
    rw [next_cls hn hp, here_mod hn hp]
    exact ⟨_, _, _, _, rfl, rfl, QR.ok s.2.1, fun _ => ⟨_, s.2.1, s.2.2, rfl, rfl⟩⟩
  · have s := sk_spec (tb := tb) hk
    rw [next_cls hn hk, here_mod hn hp, sk_stop hs]
    exact ⟨_, _, _, _, rfl, rfl, QR.bad hp s.2.1 hs, fun e => absurd e (by decide)⟩
theorem arm_rows {c : Nat} (hc : c < 18) {xf : Nat → Int32} : F_X4_open 4 18 (nI c) 72 xf = some (nI c, nI (c + 1), zr xf (c * 4) 4) ∧ (∀ (f : Nat → Int32) (v : Int32), F_X4_put 4 (nI (c + 1)) 72 f (nI c) 0 v = some (f (c * 4 + 0), upd f (c * 4 + 0) v)) ∧ (∀ (f : Nat → Int32) (v : Int32), F_X4_put 4 (nI (c + 1)) 72 f (nI c) 1 v = some (f (c * 4 + 1), upd f (c * 4 + 1) v)) ∧ (∀ (f : Nat → Int32) (v : Int32), F_X4_put 4 (nI (c + 1)) 72 f (nI c) 2 v = some (f (c * 4 + 2), upd f (c * 4 + 2) v)) ∧ (∀ (f : Nat → Int32) (v : Int32), F_X4_put 4 (nI (c + 1)) 72 f (nI c) 3 v = some (f (c * 4 + 3), upd f (c * 4 + 3) v)) :=
  ⟨open_cls (w := 4) (mo := 18) (n := 72) (by omega) hc (by omega) (by omega) (by omega),
   fun f v => put_cls (w := 4) (S := c + 1) (n := 72) (r := c) (c := 0) (by omega) (by omega) (by omega) (by omega) (by omega) (by omega),
   fun f v => put_cls (w := 4) (S := c + 1) (n := 72) (r := c) (c := 1) (by omega) (by omega) (by omega) (by omega) (by omega) (by omega),
   fun f v => put_cls (w := 4) (S := c + 1) (n := 72) (r := c) (c := 2) (by omega) (by omega) (by omega) (by omega) (by omega) (by omega),
   fun f v => put_cls (w := 4) (S := c + 1) (n := 72) (r := c) (c := 3) (by omega) (by omega) (by omega) (by omega) (by omega) (by omega)⟩
/-- one arm is read -/
theorem QR.armr (hn : n ≤ 100) (hb : ∀ i, i < n → Rg (tb i) 32 126) {P : Nat} (hP : P ≤ 6) {tp tl at_ wr : Int32} (h : QR n tb tp tl at_ wr) : ∃ (w dx dy tp' tl' at' wr' : Int32), (∀ (c : Nat) (xf : Nat → Int32) (s : Int32), c < 18 → F_X8_readArm (nI P) (nI n) tp tl tb (nI c) xf s = some (tp', tl', nI (c + 1), armR xf c s w dx dy)) ∧ (∀ (k : Nat) (rd : Nat → Int32), k + 2 < 54 → F_X9_arm (nI P) (nI n) at_ wr tb rd (nI k) = some (at', wr', upd (upd (upd rd k w) (k + 1) dx) (k + 2) dy)) ∧ QR n tb tp' tl' at' wr' ∧ (wr' = 0 → wr = 0 ∧ (∃ v : Nat, v < P ∧ w = nI v) ∧ arm dx dy) := by
  have hm : Rg (nI P - 1) (-1) 9 := by
    have := nI_m1 (n := P) (by omega)
    exact ⟨by omega, by omega⟩
  obtain ⟨v1, tp1, tl1, at1, wr1, d1, d2, d3, d4, d5⟩ := QR.digit hn hb h hm
  obtain ⟨v2, tp2, tl2, at2, wr2, e1, e2, e3, e4⟩ := QR.signed hn hb d3
  obtain ⟨q, tp3, at3, z, g1, g2, g3, g4⟩ := QR.place hn e3
  obtain ⟨v3, tp4, tl4, at4, wr4, f1, f2, f3, f4⟩ := QR.signed hn hb g3
  have up : wr4 = 0 → wr = 0 ∧ (∃ v : Nat, v < P ∧ v1 = nI v) ∧ arm v2 v3 := by
    intro hw
    have w2 := g3.signed_w f2 hw
    have w1 := d3.signed_w e2 w2
    have w0 := h.digit_w d2 w1
    have q1 := d5 w1
    rw [nI_m1 (by omega)] at q1
    obtain ⟨v, hv, ev, eV⟩ := nonneg_nI d4.1
    exact ⟨w0, ⟨v, by omega, ev⟩, e4, f4⟩
  -- the class, before the rows
  have cls : ∀ (c : Nat) (xf : Nat → Int32) (s : Int32), c < 18 → F_X8_readArm (nI P) (nI n) tp tl tb (nI c) xf s = (if v2 = 0 then (if v3 = 0 then F_X7_failAt tl4 q else some tl4) else some tl4).bind fun l => some (tp4, l, nI (c + 1), armR xf c s v1 v2 v3) := by
    intro c xf s hc
    obtain ⟨o1, o2, o3, o4, o5⟩ := arm_rows (xf := xf) hc
    unfold F_X8_readArm F_X4_size
    simp only [Option.bind_some]
    rw [d1]
    simp only [Option.bind_some]
    rw [e1]
    simp only [Option.bind_some]
    rw [g1]
    simp only [Option.bind_some]
    rw [f1]
    simp only [Option.bind_some, o1, o2, o3, o4, o5]
    by_cases z2 : v2 = 0
    · rw [if_pos z2, if_pos z2]
      by_cases z3 : v3 = 0
      · rw [if_pos z3, if_pos z3]
        rfl
      · rw [if_neg z3, if_neg z3]
        rfl
    · rw [if_neg z2, if_neg z2]
      rfl
  have mdl : ∀ (k : Nat) (rd : Nat → Int32), k + 2 < 54 → F_X9_arm (nI P) (nI n) at_ wr tb rd (nI k) = some (if wr4 = 0 ∧ v2 = 0 ∧ v3 = 0 then (at3, 1, upd (upd (upd rd k v1) (k + 1) v2) (k + 2) v3) else (at4, wr4, upd (upd (upd rd k v1) (k + 1) v2) (k + 2) v3)) := by
    intro k rd hk
    have x1 : nI k + 1 = nI (k + 1) := nI_1 _
    have x2 : nI k + 2 = nI (k + 2) := nI_add _ 2
    have k0 : (nI k).toNatClampNeg = k := nI_clamp (by omega)
    have k1 : (nI (k + 1)).toNatClampNeg = k + 1 := nI_clamp (by omega)
    have k2 : (nI (k + 2)).toNatClampNeg = k + 2 := nI_clamp (by omega)
    have u1 : upd (upd (upd rd k v1) (k + 1) v2) (k + 2) v3 (k + 1) = v2 := by
      rw [upd_ne _ _ (by omega), upd_self]
    have u2 : upd (upd (upd rd k v1) (k + 1) v2) (k + 2) v3 (k + 2) = v3 := upd_self _ _ _
    unfold F_X9_arm
    rw [d2]
    simp only [Option.bind_some, x1, x2, k0, k1, k2, u1, u2, if_pos (show gvp (nI k) 54 from gvp_nI (by omega) (by omega)), if_pos (show gvp (nI (k + 1)) 54 from gvp_nI (by omega) (by omega)), if_pos (show gvp (nI (k + 2)) 54 from gvp_nI (by omega) (by omega))]
    rw [e2]
    simp only [Option.bind_some]
    rw [g2]
    simp only [Option.bind_some]
    rw [f2]
    simp only [Option.bind_some, u1, u2]
    by_cases z1 : wr4 = 0
    · rw [if_pos z1]
      by_cases z2 : v2 = 0
      · rw [if_pos z2]
        by_cases z3 : v3 = 0
        · rw [if_pos z3, if_pos ⟨z1, z2, z3⟩]
        · rw [if_neg z3, if_neg (fun e => z3 e.2.2)]
      · rw [if_neg z2, if_neg (fun e => z2 e.2.1)]
    · rw [if_neg z1, if_neg (fun e => z1 e.1)]
  by_cases hz : v2 = 0 ∧ v3 = 0
  · rcases f3.wr with w0 | ⟨w0, -⟩
    · -- a fault that is found here
      subst w0
      have w2 := g3.signed_w f2 rfl
      obtain ⟨p, hp, hs, rfl, rfl⟩ := g4 w2
      have tl0 := f3.tl
      obtain ⟨_, k4, _, hk4, _, ek4, _⟩ := f3
      refine ⟨v1, v2, v3, tp4, -20 - nI p, nI p, 1, ?_, ?_, ?_, fun e => absurd e (by decide)⟩
      · intro c xf s hc
        rw [cls c xf s hc, if_pos hz.1, if_pos hz.2, tl0, fail_0]
        rfl
      · intro k rd hk
        rw [mdl k rd hk, if_pos ⟨rfl, hz⟩]
      · rw [ek4]
        exact QR.bad hp hk4 hs
    · subst w0
      obtain ⟨p4, k4, hp4, hk4, ep4, ek4, ⟨e9, -⟩ | ⟨-, et4, hs4⟩⟩ := id f3
      · exact absurd e9 (by decide)
      · refine ⟨v1, v2, v3, tp4, tl4, at4, 1, ?_, ?_, f3, fun e => absurd e (by decide)⟩
        · intro c xf s hc
          rw [cls c xf s hc, if_pos hz.1, if_pos hz.2, fail_1 (by rw [et4]; exact flt_ne (by omega))]
          rfl
        · intro k rd hk
          rw [mdl k rd hk, if_neg (fun e => absurd e.1 (by decide))]
  · refine ⟨v1, v2, v3, tp4, tl4, at4, wr4, ?_, ?_, f3, up⟩
    · intro c xf s hc
      rw [cls c xf s hc]
      by_cases z2 : v2 = 0
      · rw [if_pos z2, if_neg (fun e => hz ⟨z2, e⟩)]
        rfl
      · rw [if_neg z2]
        rfl
    · intro k rd hk
      rw [mdl k rd hk, if_neg (fun e => hz e.2)]
/-- an arm's row in class and model -/
def RW (P s j r : Nat) (xf rd : Nat → Int32) : Prop := xf (4 * r) = nI s ∧ xf (4 * r + 1) = rd (9 * s + 3 * j) ∧ xf (4 * r + 2) = rd (9 * s + 3 * j + 1) ∧ xf (4 * r + 3) = rd (9 * s + 3 * j + 2) ∧ (∃ w, w < P ∧ rd (9 * s + 3 * j) = nI w) ∧ arm (rd (9 * s + 3 * j + 1)) (rd (9 * s + 3 * j + 2))
theorem RW.congr {P s j r : Nat} {xf rd xf' rd' : Nat → Int32} (h : RW P s j r xf rd) (e1 : ∀ i, i < 4 * r + 4 → xf' i = xf i) (e2 : ∀ i, i < 9 * s + 3 * j + 3 → rd' i = rd i) : RW P s j r xf' rd' := by
  unfold RW
  rw [e1 _ (by omega), e1 _ (by omega), e1 _ (by omega), e1 _ (by omega), e2 _ (by omega), e2 _ (by omega), e2 _ (by omega)]
  exact h
theorem RW.new {P s j r : Nat} {xf rd : Nat → Int32} {w dx dy : Int32} (hw : ∃ v : Nat, v < P ∧ w = nI v) (ha : arm dx dy) : RW P s j r (armR xf r (nI s) w dx dy) (upd (upd (upd rd (9 * s + 3 * j) w) (9 * s + 3 * j + 1) dx) (9 * s + 3 * j + 2) dy) := by
  have e0 : armR xf r (nI s) w dx dy (4 * r) = nI s := by
    rw [armR_at, if_neg (by omega), if_neg (by omega), if_neg (by omega), if_pos rfl]
  have e1 : armR xf r (nI s) w dx dy (4 * r + 1) = w := by
    rw [armR_at, if_neg (by omega), if_neg (by omega), if_pos rfl]
  have e2 : armR xf r (nI s) w dx dy (4 * r + 2) = dx := by
    rw [armR_at, if_neg (by omega), if_pos rfl]
  have e3 : armR xf r (nI s) w dx dy (4 * r + 3) = dy := by
    rw [armR_at, if_pos rfl]
  unfold RW
  rw [e0, e1, e2, e3]
  rw [upd_self, upd_ne _ _ (show 9 * s + 3 * j + 1 ≠ 9 * s + 3 * j + 2 by omega), upd_self, upd_ne _ _ (show 9 * s + 3 * j ≠ 9 * s + 3 * j + 2 by omega), upd_ne _ _ (show 9 * s + 3 * j ≠ 9 * s + 3 * j + 1 by omega), upd_self]
  exact ⟨rfl, rfl, rfl, rfl, hw, ha⟩
theorem sent_loop (hn : n ≤ 100) (hb : ∀ i, i < n → Rg (tb i) 32 126) {P s c : Nat} (hP : P ≤ 6) (hs : s < 6) (hc : c ≤ 15) (kc : Int32 → Int32 → Int32 → Int32 → (Nat → Int32) → Option (Int32 × Int32 × Int32 × (Nat → Int32))) (km : Int32 → Int32 → Int32 → (Nat → Int32) → (Nat → Int32) → Option (Int32 × Int32 × Int32 × Int32 × Int32 × (Nat → Int32) × (Nat → Int32) × (Nat → Int32) × (Nat → Int32))) : ∀ (d j fu fu' : Nat) (tp tl at_ wr : Int32) (xf rd ra : Nat → Int32), j + d = 2 → d < fu → d + 1 < fu' → QR n tb tp tl at_ wr → ra s = nI j → ∃ (J : Nat) (i' tp' tl' at' wr' : Int32) (xf' rd' ra' : Nat → Int32), j < J ∧ J ≤ 3 ∧ FL_X8_readSentence_2 (nI P) (nI n) tb (nI s) kc fu (nI (j + 1)) tp tl (nI (c + j)) xf = kc i' tp' tl' (nI (c + J)) xf' ∧ FL_X9_talk_27 (nI P) (nI n) tb (nI s) km fu' 1 at_ wr rd ra = km 0 at' wr' rd' ra' ∧ QR n tb tp' tl' at' wr' ∧ ra' s = nI J ∧ (∀ t, t ≠ s → ra' t = ra t) ∧ (∀ i, i < 4 * (c + j) → xf' i = xf i) ∧ (∀ i, i < 9 * s + 3 * j → rd' i = rd i) ∧ (wr' = 0 → wr = 0 ∧ ∀ j', j ≤ j' → j' < J → RW P s j' (c + j') xf' rd') := by
  intro d
  induction d with
  | zero =>
    intro j fu fu' tp tl at_ wr xf rd ra hj hfu hfu' h hra
    obtain ⟨fu, rfl⟩ : ∃ g, fu = g + 1 := ⟨fu - 1, by omega⟩
    obtain ⟨fu', rfl⟩ : ∃ g, fu' = g + 2 := ⟨fu' - 2, by omega⟩
    have e : j = 2 := by omega
    subst e
    obtain ⟨w, dx, dy, tp', tl', at', wr', a1, a2, a3, a4⟩ := QR.armr hn hb hP h
    have ck : (nI s).toNatClampNeg = s := nI_clamp (by omega)
    have ek : 9 * nI s + 3 * nI 2 = nI (9 * s + 3 * 2) := by
      rw [show (9 : Int32) * nI s = nI (9 * s) from pk_mul 9 s, show (3 : Int32) * nI 2 = nI (3 * 2) from pk_mul 3 2, nI_add]
    refine ⟨3, nI 3, tp', tl', at', wr', armR xf (c + 2) (nI s) w dx dy, upd (upd (upd rd (9 * s + 3 * 2) w) (9 * s + 3 * 2 + 1) dx) (9 * s + 3 * 2 + 2) dy, upd ra s (nI 3), by omega, by omega, ?_, ?_, a3, upd_self _ _ _, fun t ht => upd_ne _ _ ht, fun i hi => ?_, fun i hi => ?_, fun hw => ?_⟩
    · unfold FL_X8_readSentence_2
      rw [if_neg (by decide), a1 (c + 2) xf (nI s) (by omega)]
      simp only [Option.bind_some]
      rw [if_pos (by decide)]
    · unfold FL_X9_talk_27
      simp only [if_neg (show ¬ (1 : Int32) = 0 by decide), if_pos (show gvp (nI s) 6 from gvp_nI hs (by omega)), ck, hra, ek]
      rw [a2 (9 * s + 3 * 2) rd (by omega)]
      simp only [Option.bind_some, upd_self]
      rw [if_pos (by decide)]
      unfold FL_X9_talk_27
      rw [if_pos rfl]
      rfl
    · rw [armR_at, if_neg (by omega), if_neg (by omega), if_neg (by omega), if_neg (by omega)]
    · rw [upd_ne _ _ (by omega), upd_ne _ _ (by omega), upd_ne _ _ (by omega)]
    · obtain ⟨q1, q2, q3⟩ := a4 hw
      refine ⟨q1, fun j' h1 h2 => ?_⟩
      have : j' = 2 := by omega
      subst this
      exact RW.new q2 q3
  | succ d ih =>
    intro j fu fu' tp tl at_ wr xf rd ra hj hfu hfu' h hra
    obtain ⟨fu, rfl⟩ : ∃ g, fu = g + 1 := ⟨fu - 1, by omega⟩
    obtain ⟨fu', rfl⟩ : ∃ g, fu' = g + 2 := ⟨fu' - 2, by omega⟩
    obtain ⟨w, dx, dy, tp', tl', at', wr', a1, a2, a3, a4⟩ := QR.armr hn hb hP h
    obtain ⟨t, tp2, at2, t1, t2, t3, t4⟩ := QR.takes hn a3 (c := 44) (by decide) (by decide)
    have ck : (nI s).toNatClampNeg = s := nI_clamp (by omega)
    have ek : 9 * nI s + 3 * nI j = nI (9 * s + 3 * j) := by
      rw [show (9 : Int32) * nI s = nI (9 * s) from pk_mul 9 s, show (3 : Int32) * nI j = nI (3 * j) from pk_mul 3 j, nI_add]
    have cls : FL_X8_readSentence_2 (nI P) (nI n) tb (nI s) kc (fu + 1) (nI (j + 1)) tp tl (nI (c + j)) xf = if t = true then FL_X8_readSentence_2 (nI P) (nI n) tb (nI s) kc fu (nI (j + 1 + 1)) tp2 tl' (nI (c + (j + 1))) (armR xf (c + j) (nI s) w dx dy) else kc (nI (j + 1)) tp2 tl' (nI (c + (j + 1))) (armR xf (c + j) (nI s) w dx dy) := by
      conv => lhs; unfold FL_X8_readSentence_2
      rw [if_neg (show ¬ (3 : Int32) < nI (j + 1) from nI_nlt (b := j + 1) (a := 3) (by omega) (by omega)), a1 (c + j) xf (nI s) (by omega)]
      simp only [Option.bind_some]
      rw [if_neg (show ¬ nI (j + 1) = 3 from fun e => by
        have := (nI_eq (b := 3) (by omega) (by omega)).mp e
        omega), t1]
      simp only [Option.bind_some, gB_if, nI_1]
      rfl
    have mdl : FL_X9_talk_27 (nI P) (nI n) tb (nI s) km (fu' + 2) 1 at_ wr rd ra = if t = true then FL_X9_talk_27 (nI P) (nI n) tb (nI s) km (fu' + 1) 1 at2 wr' (upd (upd (upd rd (9 * s + 3 * j) w) (9 * s + 3 * j + 1) dx) (9 * s + 3 * j + 2) dy) (upd ra s (nI (j + 1))) else km 0 at2 wr' (upd (upd (upd rd (9 * s + 3 * j) w) (9 * s + 3 * j + 1) dx) (9 * s + 3 * j + 2) dy) (upd ra s (nI (j + 1))) := by
      conv => lhs; unfold FL_X9_talk_27
      simp only [if_neg (show ¬ (1 : Int32) = 0 by decide), if_pos (show gvp (nI s) 6 from gvp_nI hs (by omega)), ck, hra, ek]
      rw [a2 (9 * s + 3 * j) rd (by omega)]
      simp only [Option.bind_some, upd_self, nI_1]
      rw [if_neg (show ¬ (3 : Int32) ≤ nI (j + 1) from nI_ge (b := 3) (by omega) (by omega)), t2]
      simp only [Option.bind_some, gB_if]
      cases t
      · rw [if_neg (by decide), if_neg (by decide)]
        unfold FL_X9_talk_27
        rw [if_pos rfl]
      · rw [if_pos rfl, if_pos rfl]
    have xk : ∀ i, i < 4 * (c + j) → armR xf (c + j) (nI s) w dx dy i = xf i := by
      intro i hi
      rw [armR_at, if_neg (by omega), if_neg (by omega), if_neg (by omega), if_neg (by omega)]
    have rk : ∀ i, i < 9 * s + 3 * j → upd (upd (upd rd (9 * s + 3 * j) w) (9 * s + 3 * j + 1) dx) (9 * s + 3 * j + 2) dy i = rd i := by
      intro i hi
      rw [upd_ne _ _ (by omega), upd_ne _ _ (by omega), upd_ne _ _ (by omega)]
    rw [cls, mdl]
    cases t
    · refine ⟨j + 1, nI (j + 1), tp2, tl', at2, wr', _, _, upd ra s (nI (j + 1)), by omega, by omega, rfl, rfl, t3, upd_self _ _ _, fun t ht => upd_ne _ _ ht, xk, rk, fun hw => ?_⟩
      obtain ⟨q1, q2, q3⟩ := a4 hw
      refine ⟨q1, fun j' h1 h2 => ?_⟩
      have : j' = j := by omega
      subst this
      exact RW.new q2 q3
    · rw [if_pos rfl, if_pos rfl]
      obtain ⟨J, i', tp3, tl3, at3, wr3, xf', rd', ra', b1, b2, b3, b4, b5, b6, b7, b8, b9, b10⟩ := ih (j + 1) fu (fu' + 1) tp2 tl' at2 wr' (armR xf (c + j) (nI s) w dx dy) (upd (upd (upd rd (9 * s + 3 * j) w) (9 * s + 3 * j + 1) dx) (9 * s + 3 * j + 2) dy) (upd ra s (nI (j + 1))) (by omega) (by omega) (by omega) t3 (upd_self _ _ _)
      refine ⟨J, i', tp3, tl3, at3, wr3, xf', rd', ra', by omega, b2, b3, b4, b5, b6, fun t ht => ?_, fun i hi => ?_, fun i hi => ?_, fun hw => ?_⟩
      · rw [b7 t ht, upd_ne _ _ ht]
      · rw [b8 i (by omega), xk i hi]
      · rw [b9 i (by omega), rk i hi]
      · obtain ⟨w1, q0⟩ := b10 hw
        obtain ⟨q1, q2, q3⟩ := a4 w1
        refine ⟨q1, fun j' h1 h2 => ?_⟩
        rcases Nat.lt_or_ge j' (j + 1) with h3 | h3
        · have : j' = j := by omega
          subst this
          exact (RW.new q2 q3).congr (fun i hi => b8 i (by omega)) (fun i hi => b9 i (by omega))
        · exact q0 j' h3 h2
end Talk2
