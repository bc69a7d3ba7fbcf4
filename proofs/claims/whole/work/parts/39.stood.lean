/-! stood. -/
def OR (O : Nat) (oz : Int32) (off tolds : Nat → Int32) : Prop := O ≤ 4 ∧ oz = nI O ∧ ∀ k, k < O → tolds (3 * k) = off (3 * k) ∧ tolds (3 * k + 1) = off (3 * k + 1) ∧ tolds (3 * k + 2) = off (3 * k + 2) ∧ arm (off (3 * k)) (off (3 * k + 1))
def tolB (f : Nat → Int32) (fo tu : Int32) (T : Nat) (o : Nat → Int32) (x y : Int32) (k : Nat) : Bool := decide (nI (mean f fo tu T x y (o (3 * k)) (o (3 * k + 1)) 0) = o (3 * k + 2))
def stB (f : Nat → Int32) (fo tu : Int32) (T : Nat) (o : Nat → Int32) (O : Nat) (x y : Int32) : Bool := !anyF (fun k => !tolB f fo tu T o x y k) 0 O
def sbk (f : Nat → Int32) (fo tu : Int32) (T : Nat) (o : Nat → Int32) (O k : Nat) : Bool := stB f fo tu T o O (gp k).1 (gp k).2
def cnt2 (p : Nat → Bool) : Nat → Nat → Nat
  | _, 0 => 0
  | t, d + 1 => (if p t then 1 else 0) + cnt2 p (t + 1) d
theorem cnt2_le (p : Nat → Bool) : ∀ d t, cnt2 p t d ≤ d
  | 0, t => Nat.le_refl 0
  | d + 1, t => by
    have := cnt2_le p d (t + 1)
    rw [cnt2]
    split <;> omega
theorem cnt_cnt2 (p : Nat → Bool) : ∀ d t, cnt p (t + d) = cnt p t + cnt2 p t d
  | 0, t => rfl
  | d + 1, t => by
    have := cnt_cnt2 p d (t + 1)
    rw [show t + (d + 1) = t + 1 + d by omega, this, cnt, cnt2]
    omega
theorem fst_app (p : Nat → Bool) : ∀ (a b i : Nat), fst p i (a + b) = match fst p i a with
    | some k => some k
    | none => fst p (i + a) b
  | 0, b, i => by
    rw [Nat.zero_add]
    rfl
  | a + 1, b, i => by
    rw [show a + 1 + b = (a + b) + 1 by omega, fst, fst]
    by_cases h : p i = true
    · rw [if_pos h, if_pos h]
    · rw [if_neg h, if_neg h, fst_app p a b (i + 1), show i + 1 + a = i + (a + 1) by omega]
theorem fst_bd {p : Nat → Bool} : ∀ {d i k : Nat}, fst p i d = some k → i ≤ k ∧ k < i + d
  | 0, i, k, h => by cases h
  | d + 1, i, k, h => by
    rw [fst] at h
    by_cases hp : p i = true
    · rw [if_pos hp] at h
      cases h
      omega
    · rw [if_neg hp] at h
      have := fst_bd h
      omega
section Stood
variable {T P O : Nat} {fo tu oz : Int32} {f pf g xs ys laws o tolds : Nat → Int32}
theorem get_told {r c : Nat} (hO : O ≤ 4) (hr : r < O) (hc : c < 3) : F_X4_get 3 (nI O) 12 o (nI r) (nI c) = some (o (3 * r + c)) := by
  have := get_gen (w := 3) (S := O) (n := 12) (r := r) (c := c) (f := o) hr hc (by omega) (by omega) (by omega) (by omega)
  rw [Nat.mul_comm] at this
  exact this
theorem couldStand_loop (h : SR T P fo tu f pf g xs ys laws) (ho : OR O oz o tolds) {x y : Int32} (hp : pt x y) (kk : Int32 → Option Int32) : ∀ (d i fu : Nat), i + d = O → d < fu →
    FL_X8_couldStand_2 (nI T) fo tu f oz o x y kk fu (nI i) = if anyF (fun k => !tolB f fo tu T o x y k) i d then some 0 else kk (nI O)
  | 0, i, fu + 1, hi, _ => by
    obtain ⟨hO, rfl, ho2⟩ := ho
    have e : i = O := by omega
    subst e
    unfold FL_X8_couldStand_2 F_X4_size
    simp only [Option.bind_some]
    rw [if_pos (nI_le (Nat.le_refl _) (by omega))]
    rfl
  | d + 1, i, fu + 1, hi, hfu => by
    have ih := couldStand_loop h ho hp kk d (i + 1) fu (by omega) (by omega)
    obtain ⟨hO, rfl, ho2⟩ := ho
    obtain ⟨-, -, -, ha⟩ := ho2 i (by omega)
    unfold FL_X8_couldStand_2 F_X4_size
    simp only [Option.bind_some]
    rw [if_neg (nI_ge (by omega) (by omega)), show F_X4_get 3 (nI O) 12 o (nI i) 0 = _ from get_told (c := 0) hO (by omega) (by omega), show F_X4_get 3 (nI O) 12 o (nI i) 1 = _ from get_told (c := 1) hO (by omega) (by omega), show F_X4_get 3 (nI O) 12 o (nI i) 2 = _ from get_told (c := 2) hO (by omega) (by omega)]
    simp only [Option.bind_some]
    rw [Nat.add_zero, metBy_cls h.2.2.1 h.1 hp ha rg0]
    simp only [Option.bind_some]
    rw [narrowed_cls h.1 (mset_lt _ _ _ _ _ _ _ _)]
    simp only [Option.bind_some]
    rw [nI_1, ih, anyF]
    show (if nI (mean f fo tu T x y (o (3 * i)) (o (3 * i + 1)) 0) = o (3 * i + 2) then _ else _) = _
    by_cases hc : nI (mean f fo tu T x y (o (3 * i)) (o (3 * i + 1)) 0) = o (3 * i + 2)
    · have ht : tolB f fo tu T o x y i = true := decide_eq_true hc
      rw [if_pos hc, ht]
      simp only [Bool.not_true, Bool.false_or]
    · have ht : tolB f fo tu T o x y i = false := decide_eq_false hc
      rw [if_neg hc, ht]
      simp only [Bool.not_false, Bool.true_or, if_true]
theorem couldStand_cls (h : SR T P fo tu f pf g xs ys laws) (ho : OR O oz o tolds) {x y : Int32} (hp : pt x y) : F_X8_couldStand (nI T) fo tu f oz o x y = some (gB (stB f fo tu T o O x y)) := by
  have hg := gN0_big
  unfold F_X8_couldStand
  have e := couldStand_loop h ho hp (fun _ => some 1) O 0 gN0 (by omega) (by have := ho.1; omega)
  rw [show nI 0 = (0 : Int32) from rfl] at e
  rw [e]
  unfold stB
  cases anyF (fun k => !tolB f fo tu T o x y k) 0 O <;> rfl
theorem stood_in0 (h : SR T P fo tu f pf g xs ys laws) (ho : OR O oz o tolds) {y : Nat} (hy : y < 21) (kk : Int32 → Int32 → Option Int32) : ∀ (d x fu : Nat), x + d = 21 → d < fu →
    FL_X8_stood_24 (nI T) fo tu f oz o 0 (nI y) kk fu (nI (cnt (sbk f fo tu T o O) (21 * y + x))) (nI x) = kk (nI (cnt (sbk f fo tu T o O) (21 * (y + 1)))) (nI 21)
  | 0, x, fu + 1, hi, _ => by
    have e : x = 21 := by omega
    subst e
    unfold FL_X8_stood_24
    rw [if_pos (by decide), show 21 * y + 21 = 21 * (y + 1) by omega]
  | d + 1, x, fu + 1, hi, hfu => by
    have ih := stood_in0 h ho hy kk d (x + 1) fu (by omega) (by omega)
    have hp : pt (nI x) (nI y) := ⟨nI_rg (by omega) (by omega), nI_rg (by omega) (by omega)⟩
    unfold FL_X8_stood_24
    rw [if_neg (show ¬ (21 : Int32) ≤ nI x from nI_ge (b := 21) (by omega) (by omega)), couldStand_cls h ho hp]
    simp only [Option.bind_some, gB_if]
    rw [if_pos (show (0 : Int32) ≤ 0 by decide), nI_1 x, nI_1]
    rw [← Nat.add_assoc, cnt] at ih
    have e : sbk f fo tu T o O (21 * y + x) = stB f fo tu T o O (nI x) (nI y) := by unfold sbk; rw [gp_at (by omega)]
    rw [e] at ih
    cases hb : stB f fo tu T o O (nI x) (nI y)
    · rw [hb] at ih
      simpa using ih
    · rw [hb] at ih
      simpa using ih
theorem stood_out0 (h : SR T P fo tu f pf g xs ys laws) (ho : OR O oz o tolds) (kk : Int32 → Int32 → Option Int32) : ∀ (d y fu : Nat), y + d = 21 → d < fu →
    FL_X8_stood_15 (nI T) fo tu f oz o 0 kk fu (nI (cnt (sbk f fo tu T o O) (21 * y))) (nI y) = kk (nI (cnt (sbk f fo tu T o O) 441)) (nI 21)
  | 0, y, fu + 1, hi, _ => by
    have e : y = 21 := by omega
    subst e
    unfold FL_X8_stood_15
    rw [if_pos (by decide)]
  | d + 1, y, fu + 1, hi, hfu => by
    have hg := gN0_big
    have ih := stood_out0 h ho kk d (y + 1) fu (by omega) (by omega)
    unfold FL_X8_stood_15
    rw [if_neg (show ¬ (21 : Int32) ≤ nI y from nI_ge (b := 21) (by omega) (by omega))]
    refine (stood_in0 h ho (by omega) _ 21 0 gN0 (by omega) (by omega)).trans ?_
    show FL_X8_stood_15 (nI T) fo tu f oz o 0 kk fu _ (nI y + 1) = _
    rw [nI_1]
    exact ih
def stx (wh : Int32) (k : Nat) : Int32 := if wh = 1 then (gp k).1 else (gp k).2
theorem stood_in1 (h : SR T P fo tu f pf g xs ys laws) (ho : OR O oz o tolds) {wh : Int32} (hw : ¬ wh ≤ 0) {y : Nat} (hy : y < 21) (kk : Int32 → Int32 → Option Int32) : ∀ (d x fu : Nat) (l : Int32), x + d = 21 → d < fu →
    FL_X8_stood_24 (nI T) fo tu f oz o wh (nI y) kk fu l (nI x) = match fst (sbk f fo tu T o O) (21 * y + x) d with
      | some k => some (stx wh k)
      | none => kk l (nI 21)
  | 0, x, fu + 1, l, hi, _ => by
    have e : x = 21 := by omega
    subst e
    unfold FL_X8_stood_24
    rw [if_pos (by decide)]
    rfl
  | d + 1, x, fu + 1, l, hi, hfu => by
    have ih := stood_in1 h ho hw hy kk d (x + 1) fu l (by omega) (by omega)
    have hp : pt (nI x) (nI y) := ⟨nI_rg (by omega) (by omega), nI_rg (by omega) (by omega)⟩
    unfold FL_X8_stood_24
    rw [if_neg (show ¬ (21 : Int32) ≤ nI x from nI_ge (b := 21) (by omega) (by omega)), couldStand_cls h ho hp]
    simp only [Option.bind_some, gB_if]
    rw [if_neg hw, nI_1 x, fst]
    have e : sbk f fo tu T o O (21 * y + x) = stB f fo tu T o O (nI x) (nI y) := by unfold sbk; rw [gp_at (by omega)]
    rw [e]
    rw [← Nat.add_assoc] at ih
    cases hb : stB f fo tu T o O (nI x) (nI y)
    · simpa using ih
    · have e2 : stx wh (21 * y + x) = if wh = 1 then nI x else nI y := by unfold stx; rw [gp_at (by omega)]
      show (if wh = 1 then some (nI x) else some (nI y)) = some (stx wh (21 * y + x))
      rw [e2]
      split <;> rfl
theorem stood_out1 (h : SR T P fo tu f pf g xs ys laws) (ho : OR O oz o tolds) {wh : Int32} (hw : ¬ wh ≤ 0) (kk : Int32 → Int32 → Option Int32) : ∀ (d y fu : Nat) (l : Int32), y + d = 21 → d < fu →
    FL_X8_stood_15 (nI T) fo tu f oz o wh kk fu l (nI y) = match fst (sbk f fo tu T o O) (21 * y) (21 * d) with
      | some k => some (stx wh k)
      | none => kk l (nI 21)
  | 0, y, fu + 1, l, hi, _ => by
    have e : y = 21 := by omega
    subst e
    unfold FL_X8_stood_15
    rw [if_pos (by decide)]
    rfl
  | d + 1, y, fu + 1, l, hi, hfu => by
    have hg := gN0_big
    have ih := stood_out1 h ho hw kk d (y + 1) fu l (by omega) (by omega)
    unfold FL_X8_stood_15
    rw [if_neg (show ¬ (21 : Int32) ≤ nI y from nI_ge (b := 21) (by omega) (by omega))]
    refine (stood_in1 h ho hw (by omega) _ 21 0 gN0 l (by omega) (by omega)).trans ?_
    rw [show 21 * (d + 1) = 21 + 21 * d by omega, fst_app, Nat.add_zero]
    cases fst (sbk f fo tu T o O) (21 * y) 21 with
    | some k => rfl
    | none =>
      show FL_X8_stood_15 (nI T) fo tu f oz o wh kk fu l (nI y + 1) = _
      rw [nI_1, ih, show 21 * y + 21 = 21 * (y + 1) by omega]
theorem stood9_in (h : SR T P fo tu f pf g xs ys laws) (ho : OR O oz o tolds) {t : Nat} (htt : t < 441) (kk : Int32 → Int32 → Option Int32) : ∀ (d i fu : Nat) (b : Bool), i + d = O → d < fu →
    FL_X9_stood_35 (nI T) oz g laws tolds (nI t) kk fu (gB b) (nI i) = kk (gB (b && !anyF (fun k => !tolB f fo tu T o (gp t).1 (gp t).2 k) i d)) (nI O)
  | 0, i, fu + 1, b, hi, _ => by
    obtain ⟨hO, rfl, ho2⟩ := ho
    have e : i = O := by omega
    subst e
    unfold FL_X9_stood_35
    rw [if_pos (nI_le (Nat.le_refl _) (by omega))]
    simp [anyF]
  | d + 1, i, fu + 1, b, hi, hfu => by
    have ih := stood9_in h ho htt kk d (i + 1) fu
    obtain ⟨hO, rfl, ho2⟩ := ho
    obtain ⟨t1, t2, t3, ha⟩ := ho2 i (by omega)
    have e0 : 3 * nI i = nI (3 * i) := pk_mul 3 i
    have e1 : nI (3 * i) + 1 = nI (3 * i + 1) := nI_1 _
    have e2 : nI (3 * i) + 2 = nI (3 * i + 2) := nI_add _ 2
    have k0 : (nI (3 * i)).toNatClampNeg = 3 * i := nI_clamp (by omega)
    have k1 : (nI (3 * i + 1)).toNatClampNeg = 3 * i + 1 := nI_clamp (by omega)
    have k2 : (nI (3 * i + 2)).toNatClampNeg = 3 * i + 2 := nI_clamp (by omega)
    unfold FL_X9_stood_35
    rw [if_neg (nI_ge (by omega) (by omega))]
    simp only [gB_if, gp_rem htt, gp_div htt, e0, e1, e2, if_pos (show gvp (nI (3 * i)) 12 from gvp_nI (by omega) (by omega)), if_pos (show gvp (nI (3 * i + 1)) 12 from gvp_nI (by omega) (by omega)), if_pos (show gvp (nI (3 * i + 2)) 12 from gvp_nI (by omega) (by omega)), k0, k1, k2, t1, t2, t3]
    rw [h.means (gp_pt htt) ha rg0]
    simp only [Option.bind_some]
    rw [nI_1, anyF]
    cases b
    · rw [if_neg (by decide), show (0 : Int32) = gB false from rfl, ih false (by omega) (by omega)]
      simp
    · rw [if_pos rfl]
      by_cases hc : nI (mean f fo tu T (gp t).1 (gp t).2 (o (3 * i)) (o (3 * i + 1)) 0) = o (3 * i + 2)
      · rw [if_pos hc, show (1 : Int32) = gB true from rfl, ih true (by omega) (by omega)]
        simp [tolB, hc]
      · rw [if_neg hc, show (0 : Int32) = gB false from rfl, ih false (by omega) (by omega)]
        simp [tolB, hc]
theorem stood9 (h : SR T P fo tu f pf g xs ys laws) (ho : OR O oz o tolds) (kk : Int32 → Int32 → Int32 → Option Int32) : ∀ (d fu : Nat) (l2 l3 : Int32), d ≤ 441 → d < fu → l2 = nI (cnt2 (sbk f fo tu T o O) d (441 - d)) → (l3 = match fst (sbk f fo tu T o O) d (441 - d) with
      | some t => nI t
      | none => -4) →
    FL_X9_stood_24 (nI T) oz g laws tolds kk fu l2 l3 (nI d - 1) = kk (nI (cnt2 (sbk f fo tu T o O) 0 441)) (match fst (sbk f fo tu T o O) 0 441 with
      | some t => nI t
      | none => -4) (-1)
  | 0, fu + 1, l2, l3, _, _, e2, e3 => by
    unfold FL_X9_stood_24
    rw [if_pos (by decide), e2, e3]
    rfl
  | d + 1, fu + 1, l2, l3, hd, hfu, e2, e3 => by
    have hg := gN0_big
    have ih := stood9 h ho kk d fu
    have e1 : nI (d + 1) - 1 = nI d := nI_pred d
    have em : nI d + (-1) = nI d - 1 := by rw [Int32.sub_eq_add_neg]
    unfold FL_X9_stood_24
    rw [e1, if_neg (nI_neg d (by omega)), em]
    refine (stood9_in h ho (by omega) _ O 0 gN0 true (by omega) (by have := ho.1; omega)).trans ?_
    simp only [gB_if, Bool.true_and]
    have e4 : 441 - d = (441 - (d + 1)) + 1 := by omega
    have es : (!anyF (fun k => !tolB f fo tu T o (gp d).1 (gp d).2 k) 0 O) = sbk f fo tu T o O d := rfl
    rw [es]
    cases hb : sbk f fo tu T o O d
    · rw [if_neg (by decide), if_neg (by decide)]
      refine ih _ _ (by omega) (by omega) ?_ ?_
      · rw [e4, cnt2, hb, e2, nI_p0]
        simp
      · rw [e4, fst, hb, e3]
        simp
    · rw [if_pos rfl, if_pos rfl]
      refine ih _ _ (by omega) (by omega) ?_ ?_
      · rw [e4, cnt2, hb, e2, nI_1, Nat.add_comm]
        simp
      · rw [e4, fst, hb]
        simp
theorem eq_stood (h : SR T P fo tu f pf g xs ys laws) (ho : OR O oz o tolds) (wh : Int32) : ∃ r, F_X8_stood (nI T) fo tu f oz o wh = some r ∧ F_X9_stood (nI T) oz g laws tolds wh = some r := by
  have hg := gN0_big
  unfold F_X8_stood F_X9_stood
  rw [in_mod32]
  simp only [Option.bind_some, gB_if]
  have c1 : (wh < 0) ↔ wh.toInt < 0 := gI_lt wh 0
  have c2 : (wh ≤ 2) ↔ wh.toInt ≤ 2 := gI_le wh 2
  show ∃ r, _ = some r ∧ (if inb wh.toInt 0 2 = true then _ else _) = some r
  cases h4 : inb wh.toInt 0 2
  · refine ⟨-1, ?_, rfl⟩
    rcases inb_f.mp h4 with h5 | h5
    · rw [if_pos (c1.mpr h5)]
    · rw [if_neg (by rw [c1]; omega), if_neg (by rw [c2]; omega)]
  · have h5 := inb_t.mp h4
    obtain ⟨q, hq, rfl⟩ : ∃ q, q < 3 ∧ wh = nI q := inb_nI (n := 3) h4
    rw [if_neg (by rw [c1]; omega), if_pos (by rw [c2]; omega), if_pos rfl]
    have m := stood9 h ho (fun l2_24 l3_24 _ => if nI q = 0 then (some l2_24) else (if 0 ≤ l3_24 then (if nI q = 1 then (some (grem l3_24 21)) else (some (l3_24 / 21))) else (some (-4)))) 441 gN0 0 (-4) (by omega) (by omega) rfl rfl
    rw [show nI 441 - 1 = (440 : Int32) from by decide] at m
    rcases Nat.eq_zero_or_pos q with rfl | hq0
    · have e := stood_out0 h ho (fun l2_15 _ => if nI 0 = 0 then (some l2_15) else (some (-4))) 21 0 gN0 (by omega) (by omega)
      refine ⟨nI (cnt (sbk f fo tu T o O) 441), e, m.trans ?_⟩
      have := cnt_cnt2 (sbk f fo tu T o O) 441 0
      rw [Nat.zero_add] at this
      rw [if_pos (show nI 0 = (0 : Int32) from rfl), this]
      simp [cnt]
    · have hw : ¬ nI q ≤ 0 := nI_nle hq0 (by omega)
      have hn0 : ¬ nI q = 0 := nI_ne0 hq0 (by omega)
      have e := stood_out1 h ho hw (fun l2_15 _ => if nI q = 0 then (some l2_15) else (some (-4))) 21 0 gN0 0 (by omega) (by omega)
      cases hf : fst (sbk f fo tu T o O) 0 441 with
      | none =>
        refine ⟨-4, ?_, m.trans ?_⟩
        · refine e.trans ?_
          rw [show 21 * 0 = 0 from rfl, show 21 * 21 = 441 from rfl, hf]
          simp [hn0]
        · rw [hf]
          show (if nI q = 0 then _ else if 0 ≤ (-4 : Int32) then _ else some (-4)) = some (-4)
          rw [if_neg hn0, if_neg (by decide)]
      | some k =>
        have hk := fst_bd hf
        refine ⟨stx (nI q) k, ?_, m.trans ?_⟩
        · refine e.trans ?_
          rw [show 21 * 0 = 0 from rfl, show 21 * 21 = 441 from rfl, hf]
        · rw [hf]
          show (if nI q = 0 then _ else if 0 ≤ nI k then (if nI q = 1 then some (grem (nI k) 21) else some (nI k / 21)) else some (-4)) = _
          rw [if_neg hn0, if_pos (nI_pos' (by omega)), gp_rem (by omega), gp_div (by omega)]
          unfold stx
          by_cases h1 : nI q = 1
          · rw [if_pos h1, if_pos h1]
          · rw [if_neg h1, if_neg h1]
end Stood
