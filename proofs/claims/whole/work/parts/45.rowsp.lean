/-! Rows: what is added and put. -/
def zr (f : Nat → Int32) (a w : Nat) : Nat → Int32 := fun i => if a ≤ i ∧ i < a + w then 0 else f i
theorem zr_step (f : Nat → Int32) (a c : Nat) : upd (zr f a c) (a + c) 0 = zr f a (c + 1) := by
  funext i
  by_cases e : i = a + c
  · rw [e, upd_self]
    unfold zr
    rw [if_pos (by omega)]
  · rw [upd_ne _ _ e]
    unfold zr
    by_cases h : a ≤ i ∧ i < a + c
    · rw [if_pos h, if_pos (by omega)]
    · rw [if_neg h, if_neg (by omega)]
theorem zr_0 (f : Nat → Int32) (a : Nat) : zr f a 0 = f := by
  funext i
  unfold zr
  rw [if_neg (by omega)]
theorem open_loop {w s n : Nat} {f : Nat → Int32} (hw : w < 2 ^ 31) (hs : s < 2 ^ 31) (hn : n < 2 ^ 31) (hi : s * w + w ≤ n) (kk : Int32 → (Nat → Int32) → Option (Int32 × Int32 × (Nat → Int32))) : ∀ (d c fu : Nat), c + d = w → d < fu → FL_X4_open_15 (nI w) (nI s) n kk fu (nI c) (zr f (s * w) c) = kk (nI w) (zr f (s * w) w)
  | 0, c, fu + 1, hc, _ => by
    have e : c = w := by omega
    subst e
    unfold FL_X4_open_15
    rw [if_pos (nI_le (Nat.le_refl _) hw)]
  | d + 1, c, fu + 1, hc, hfu => by
    have ih := open_loop (f := f) hw hs hn hi kk d (c + 1) fu (by omega) (by omega)
    have e : nI s * nI w + nI c = nI (s * w + c) := by rw [pk_mul, nI_add]
    have ce : (nI (s * w + c)).toNatClampNeg = s * w + c := nI_clamp (by omega)
    unfold FL_X4_open_15
    simp only [if_neg (nI_ge (show c < w by omega) hw), e, if_pos (show gvp (nI (s * w + c)) n from gvp_nI (by omega) hn), ce]
    rw [zr_step, nI_1]
    exact ih
theorem open_cls {w s n mo : Nat} {f : Nat → Int32} (hw : w < 100) (hs : s < mo) (hmo : mo < 100) (hn : n < 2 ^ 31) (hi : s * w + w ≤ n) : F_X4_open (nI w) (nI mo) (nI s) n f = some (nI s, nI (s + 1), zr f (s * w) w) := by
  have hg := gN0_big
  unfold F_X4_open
  rw [if_pos (nI_lt hs (by omega))]
  have e := open_loop (f := f) (w := w) (s := s) (n := n) (by omega) (by omega) hn hi (fun _ a1_15 => some (((nI s + 1) - 1), (nI s + 1), a1_15)) w 0 gN0 (by omega) (by omega)
  rw [zr_0] at e
  refine e.trans ?_
  rw [nI_1, nI_pred]
theorem open_full {w s n mo : Nat} {f : Nat → Int32} (hs : mo ≤ s) (hs2 : s < 2 ^ 31) : F_X4_open (nI w) (nI mo) (nI s) n f = some (-1, nI s, f) := by
  unfold F_X4_open
  rw [if_neg (nI_nlt hs hs2)]
theorem put_cls {w S n r c : Nat} {f : Nat → Int32} {v : Int32} (hr : r < S) (hc : c < w) (hi : r * w + c < n) (h1 : S < 2 ^ 31) (h2 : w < 2 ^ 31) (h3 : n < 2 ^ 31) : F_X4_put (nI w) (nI S) n f (nI r) (nI c) v = some (f (r * w + c), upd f (r * w + c) v) := by
  unfold F_X4_put
  have e : nI r * nI w + nI c = nI (r * w + c) := by rw [pk_mul, nI_add]
  have ce : (nI (r * w + c)).toNatClampNeg = r * w + c := nI_clamp (by omega)
  rw [get_gen hr hc hi h1 h2 h3, has_cls h1]
  simp only [Option.bind_some, gB_if]
  rw [inb_t.mpr (by rw [nI_toInt (by omega)]; omega)]
  simp only [if_true, if_neg (nI_neg c (by omega)), if_neg (nI_ge hc h2), e, if_pos (show gvp (nI (r * w + c)) n from gvp_nI hi h3), ce]
/-- a new thing: its row -/
def thR (f : Nat → Int32) (T : Nat) (x y br : Int32) : Nat → Int32 := upd (upd (upd (zr f (T * 5) 5) (T * 5) x) (T * 5 + 1) y) (T * 5 + 2) br
theorem addThing_cls {T : Nat} {f : Nat → Int32} {x y br : Int32} (hT : T < 10) : F_X8_addThing (nI T) f x y br = some (nI T, nI (T + 1), thR f T x y br) := by
  unfold F_X8_addThing
  rw [show F_X4_open 5 10 (nI T) 50 f = _ from open_cls (w := 5) (mo := 10) (n := 50) (by omega) hT (by omega) (by omega) (by omega)]
  simp only [Option.bind_some]
  rw [if_pos (nI_pos' (by omega)), show ∀ (f : Nat → Int32) v, F_X4_put 5 (nI (T + 1)) 50 f (nI T) 0 v = _ from fun f v => put_cls (w := 5) (S := T + 1) (n := 50) (r := T) (c := 0) (f := f) (v := v) (by omega) (by omega) (by omega) (by omega) (by omega) (by omega)]
  simp only [Option.bind_some]
  rw [show ∀ (f : Nat → Int32) v, F_X4_put 5 (nI (T + 1)) 50 f (nI T) 1 v = _ from fun f v => put_cls (w := 5) (S := T + 1) (n := 50) (r := T) (c := 1) (f := f) (v := v) (by omega) (by omega) (by omega) (by omega) (by omega) (by omega)]
  simp only [Option.bind_some]
  rw [show ∀ (f : Nat → Int32) v, F_X4_put 5 (nI (T + 1)) 50 f (nI T) 2 v = _ from fun f v => put_cls (w := 5) (S := T + 1) (n := 50) (r := T) (c := 2) (f := f) (v := v) (by omega) (by omega) (by omega) (by omega) (by omega) (by omega)]
  rfl
theorem addThing_full {f : Nat → Int32} {x y br : Int32} : F_X8_addThing (nI 10) f x y br = some (-3, nI 10, f) := by
  unfold F_X8_addThing
  rw [show F_X4_open 5 10 (nI 10) 50 f = _ from open_full (w := 5) (mo := 10) (s := 10) (n := 50) (Nat.le_refl _) (by omega)]
  simp only [Option.bind_some]
  rw [if_neg (by decide)]
/-- a new point: its row -/
def ptR (f : Nat → Int32) (s : Nat) (x y : Int32) : Nat → Int32 := upd (upd (zr f (s * 2) 2) (s * 2) x) (s * 2 + 1) y
theorem addPoint_cls {s mo n : Nat} {f : Nat → Int32} {x y : Int32} (hp : ptB x y = true) (hs : s < mo) (hmo : mo < 100) (hn : n = 2 * mo) : F_X8_addPoint 2 (nI mo) (nI s) n f x y = some (nI s, nI (s + 1), ptR f s x y) := by
  unfold F_X8_addPoint
  rw [isPoint_cls, hp]
  simp only [Option.bind_some, gB_if, if_true]
  rw [show F_X4_open 2 (nI mo) (nI s) n f = _ from open_cls (w := 2) (mo := mo) (n := n) (by omega) hs hmo (by omega) (by omega)]
  simp only [Option.bind_some]
  rw [if_pos (nI_pos' (by omega)), show ∀ (f : Nat → Int32) v, F_X4_put 2 (nI (s + 1)) n f (nI s) 0 v = _ from fun f v => put_cls (w := 2) (S := s + 1) (n := n) (r := s) (c := 0) (f := f) (v := v) (by omega) (by omega) (by omega) (by omega) (by omega) (by omega)]
  simp only [Option.bind_some]
  rw [show ∀ (f : Nat → Int32) v, F_X4_put 2 (nI (s + 1)) n f (nI s) 1 v = _ from fun f v => put_cls (w := 2) (S := s + 1) (n := n) (r := s) (c := 1) (f := f) (v := v) (by omega) (by omega) (by omega) (by omega) (by omega) (by omega)]
  rfl
theorem addPoint_full {mo n : Nat} {f : Nat → Int32} {x y : Int32} (hp : ptB x y = true) (hmo : mo < 100) : F_X8_addPoint 2 (nI mo) (nI mo) n f x y = some (-3, nI mo, f) := by
  unfold F_X8_addPoint
  rw [isPoint_cls, hp]
  simp only [Option.bind_some, gB_if, if_true]
  rw [show F_X4_open 2 (nI mo) (nI mo) n f = _ from open_full (w := 2) (mo := mo) (s := mo) (n := n) (Nat.le_refl _) (by omega)]
  simp only [Option.bind_some]
  rw [if_neg (by decide)]
theorem addPoint_bad {mo s n : Nat} {f : Nat → Int32} {x y : Int32} (hp : ptB x y = false) : F_X8_addPoint 2 (nI mo) (nI s) n f x y = some (-1, nI s, f) := by
  unfold F_X8_addPoint
  rw [isPoint_cls, hp]
  rfl
