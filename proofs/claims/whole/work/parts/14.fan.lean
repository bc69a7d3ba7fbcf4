/-! Written by wip/gen/spec.py: part 14.fan. -/
def R_X1_haveDivisor : Room := { frames := 0, cells := 0, slots := 0, locals := 0 }
noncomputable def FL_X1_haveDivisor_2 (dx : Int32) (dy : Int32) (kk27 : Int32 → Option Int32) : Nat → Int32 → Option Int32
  | 0, _ => none
  | fu + 1, l2_2 => if 5 < l2_2 then (kk27 l2_2) else (if ¬ l2_2 = 0 then (if (grem dx l2_2) = 0 then (if ¬ l2_2 = 0 then (if (grem dy l2_2) = 0 then (some 1) else (FL_X1_haveDivisor_2 dx dy kk27 fu (l2_2 + 1))) else none) else (FL_X1_haveDivisor_2 dx dy kk27 fu (l2_2 + 1))) else none)
noncomputable def F_X1_haveDivisor (dx : Int32) (dy : Int32) : Option Int32 :=
  FL_X1_haveDivisor_2 dx dy (fun l2_2 => some 0) gN0 2
set_option maxRecDepth 100000 in
set_option maxHeartbeats 4000000 in
theorem t_X1_haveDivisor_2 (dx : Int32) (dy : Int32) (kk27 : Int32 → Option Int32) (rr : Int32)  (hk27 : ∀ (l2_2 : Int32), kk27 l2_2 = some rr → Go mX1_haveDivisor R_X1_haveDivisor (gRet mX1_haveDivisor (fun r0 w0 => r0 = some (.int rr) ∧ w0 = [])) (27, [(0, .int dx), (1, .int dy), (2, .int l2_2)], [], [])) : ∀ (fu : Nat) (l2_2 : Int32), FL_X1_haveDivisor_2 dx dy kk27 fu l2_2 = some rr → Go mX1_haveDivisor R_X1_haveDivisor (gRet mX1_haveDivisor (fun r0 w0 => r0 = some (.int rr) ∧ w0 = [])) (2, [(0, .int dx), (1, .int dy), (2, .int l2_2)], [], []) := by
  intro fu
  induction fu with
  | zero =>
    intro l2_2 hF
    cases hF
  | succ fu ih =>
    intro l2_2 hF
    unfold FL_X1_haveDivisor_2 at hF
    refine Go.run qX1_haveDivisor IX1_ok 2 2 (4, [(0, .int dx), (1, .int dy), (2, .int l2_2)], [.int 5, .int l2_2], []) [] rfl trivial ?_
    refine Tc_gt qX1_haveDivisor 4 23 27 rfl rfl (fun hb1021 => ?_) (fun hb1021 => ?_)
    · replace hF := gpos hb1021 hF
      exact hk27 l2_2 hF
    · replace hF := gneg hb1021 hF
      obtain ⟨hc1022, hF⟩ := gif hF
      refine Go.run qX1_haveDivisor IX1_ok 5 3 (10, [(0, .int dx), (1, .int dy), (2, .int l2_2)], [.int (grem dx l2_2)], []) [¬ l2_2 = 0] rfl ⟨hc1022, trivial⟩ ?_
      refine Ti_ne qX1_haveDivisor 8 11 21 rfl rfl (fun hb1023 => ?_) (fun hb1023 => ?_)
      · replace hF := gneg hb1023 hF
        refine Go.run qX1_haveDivisor IX1_ok 15 2 (2, [(2, .int (l2_2 + 1)), (0, .int dx), (1, .int dy)], [], []) [] rfl trivial ?_
        refine Go.loc [1, 2, 0] rfl ?_
        exact ih (l2_2 + 1) hF
      · replace hF := gpos hb1023 hF
        obtain ⟨hc1024, hF⟩ := gif hF
        refine Go.run qX1_haveDivisor IX1_ok 9 3 (16, [(0, .int dx), (1, .int dy), (2, .int l2_2)], [.int (grem dy l2_2)], []) [¬ l2_2 = 0] rfl ⟨hc1024, trivial⟩ ?_
        refine Ti_ne qX1_haveDivisor 12 5 21 rfl rfl (fun hb1025 => ?_) (fun hb1025 => ?_)
        · replace hF := gneg hb1025 hF
          refine Go.run qX1_haveDivisor IX1_ok 15 2 (2, [(2, .int (l2_2 + 1)), (0, .int dx), (1, .int dy)], [], []) [] rfl trivial ?_
          refine Go.loc [1, 2, 0] rfl ?_
          exact ih (l2_2 + 1) hF
        · replace hF := gpos hb1025 hF
          refine Go.run qX1_haveDivisor IX1_ok 13 1 (20, [(0, .int dx), (1, .int dy), (2, .int l2_2)], [.int 1], []) [] rfl trivial ?_
          obtain rfl := Option.some.inj hF
          exact Tr_z qX1_haveDivisor 14 rfl rfl (by decide) ⟨rfl, rfl⟩
set_option maxRecDepth 100000 in
set_option maxHeartbeats 4000000 in
theorem c_X1_haveDivisor (dx : Int32) (dy : Int32) (rr : Int32) (hF : F_X1_haveDivisor dx dy = some rr) : Cd mX1_haveDivisor R_X1_haveDivisor [.int dx, .int dy] [] (some (.int rr)) [] := by
  unfold F_X1_haveDivisor at hF
  refine Ct.of rfl (Nat.le_of_ble_eq_true rfl) ?_
  refine Go.run qX1_haveDivisor IX1_ok 0 2 (2, [(2, .int 2), (0, .int dx), (1, .int dy)], [], []) [] rfl trivial ?_
  refine Go.loc [1, 2, 0] rfl ?_
  refine t_X1_haveDivisor_2 dx dy _ rr (fun l2_2 hF => ?_) gN0 2 hF
  refine Go.run qX1_haveDivisor IX1_ok 17 1 (28, [(0, .int dx), (1, .int dy), (2, .int l2_2)], [.int 0], []) [] rfl trivial ?_
  obtain rfl := Option.some.inj hF
  exact Tr_z qX1_haveDivisor 18 rfl rfl (by decide) ⟨rfl, rfl⟩
def R_X1_dx : Room := { frames := 0, cells := 0, slots := 0, locals := 0 }
noncomputable def F_X1_dx (fx : Nat → Int32) (arm : Int32) : Option Int32 :=
  if arm < 0 then (some 0) else (if 80 ≤ arm then (some 0) else (if gvp arm 80 then (some (fx arm.toNatClampNeg)) else none))
set_option maxRecDepth 100000 in
set_option maxHeartbeats 4000000 in
theorem c_X1_dx (fx : Nat → Int32) (arm : Int32) (rr : Int32) (hF : F_X1_dx fx arm = some rr) : Cd mX1_dx R_X1_dx [.ref 0, .int arm] [(0, .inr (1, [.ref 1, .ref 2])), (1, .inl (0, 80, .inl fx))] (some (.int rr)) [(0, .inr (1, [.ref 1, .ref 2])), (1, .inl (0, 80, .inl fx))] := by
  unfold F_X1_dx at hF
  refine Ct.of rfl (Nat.le_of_ble_eq_true rfl) ?_
  refine Go.run qX1_dx IX1_ok 0 1 (1, [(0, .ref 0), (1, .int arm)], [.int arm], [(0, .inr (1, [.ref 1, .ref 2])), (1, .inl (0, 80, .inl fx))]) [] rfl trivial ?_
  refine Ti_lt qX1_dx 1 18 19 rfl rfl (fun hb1 => ?_) (fun hb1 => ?_)
  · replace hF := gpos hb1 hF
    refine Go.run qX1_dx IX1_ok 10 1 (20, [(0, .ref 0), (1, .int arm)], [.int 0], [(0, .inr (1, [.ref 1, .ref 2])), (1, .inl (0, 80, .inl fx))]) [] rfl trivial ?_
    obtain rfl := Option.some.inj hF
    exact Tr_i qX1_dx 11 rfl rfl ⟨rfl, rfl⟩
  · replace hF := gneg hb1 hF
    refine Go.run qX1_dx IX1_ok 2 2 (7, [(0, .ref 0), (1, .int arm)], [.int 80, .int arm], [(0, .inr (1, [.ref 1, .ref 2])), (1, .inl (0, 80, .inl fx))]) [] rfl trivial ?_
    refine Tc_ge qX1_dx 4 12 19 rfl rfl (fun hb2 => ?_) (fun hb2 => ?_)
    · replace hF := gpos hb2 hF
      refine Go.run qX1_dx IX1_ok 10 1 (20, [(0, .ref 0), (1, .int arm)], [.int 0], [(0, .inr (1, [.ref 1, .ref 2])), (1, .inl (0, 80, .inl fx))]) [] rfl trivial ?_
      obtain rfl := Option.some.inj hF
      exact Tr_i qX1_dx 11 rfl rfl ⟨rfl, rfl⟩
    · replace hF := gneg hb2 hF
      obtain ⟨hc3, hF⟩ := gif hF
      refine Go.run qX1_dx IX1_ok 5 5 (20, [(0, .ref 0), (1, .int arm)], [.int (fx arm.toNatClampNeg)], [(0, .inr (1, [.ref 1, .ref 2])), (1, .inl (0, 80, .inl fx))]) [gvp arm 80] rfl ⟨hc3, trivial⟩ ?_
      obtain rfl := Option.some.inj hF
      exact Tr_i qX1_dx 11 rfl rfl ⟨rfl, rfl⟩
def R_X1_dy : Room := { frames := 0, cells := 0, slots := 0, locals := 0 }
noncomputable def F_X1_dy (fy : Nat → Int32) (arm : Int32) : Option Int32 :=
  if arm < 0 then (some 0) else (if 80 ≤ arm then (some 0) else (if gvp arm 80 then (some (fy arm.toNatClampNeg)) else none))
set_option maxRecDepth 100000 in
set_option maxHeartbeats 4000000 in
theorem c_X1_dy (fy : Nat → Int32) (arm : Int32) (rr : Int32) (hF : F_X1_dy fy arm = some rr) : Cd mX1_dy R_X1_dy [.ref 0, .int arm] [(0, .inr (1, [.ref 1, .ref 2])), (2, .inl (0, 80, .inl fy))] (some (.int rr)) [(0, .inr (1, [.ref 1, .ref 2])), (2, .inl (0, 80, .inl fy))] := by
  unfold F_X1_dy at hF
  refine Ct.of rfl (Nat.le_of_ble_eq_true rfl) ?_
  refine Go.run qX1_dy IX1_ok 0 1 (1, [(0, .ref 0), (1, .int arm)], [.int arm], [(0, .inr (1, [.ref 1, .ref 2])), (2, .inl (0, 80, .inl fy))]) [] rfl trivial ?_
  refine Ti_lt qX1_dy 1 18 19 rfl rfl (fun hb1 => ?_) (fun hb1 => ?_)
  · replace hF := gpos hb1 hF
    refine Go.run qX1_dy IX1_ok 10 1 (20, [(0, .ref 0), (1, .int arm)], [.int 0], [(0, .inr (1, [.ref 1, .ref 2])), (2, .inl (0, 80, .inl fy))]) [] rfl trivial ?_
    obtain rfl := Option.some.inj hF
    exact Tr_i qX1_dy 11 rfl rfl ⟨rfl, rfl⟩
  · replace hF := gneg hb1 hF
    refine Go.run qX1_dy IX1_ok 2 2 (7, [(0, .ref 0), (1, .int arm)], [.int 80, .int arm], [(0, .inr (1, [.ref 1, .ref 2])), (2, .inl (0, 80, .inl fy))]) [] rfl trivial ?_
    refine Tc_ge qX1_dy 4 12 19 rfl rfl (fun hb2 => ?_) (fun hb2 => ?_)
    · replace hF := gpos hb2 hF
      refine Go.run qX1_dy IX1_ok 10 1 (20, [(0, .ref 0), (1, .int arm)], [.int 0], [(0, .inr (1, [.ref 1, .ref 2])), (2, .inl (0, 80, .inl fy))]) [] rfl trivial ?_
      obtain rfl := Option.some.inj hF
      exact Tr_i qX1_dy 11 rfl rfl ⟨rfl, rfl⟩
    · replace hF := gneg hb2 hF
      obtain ⟨hc3, hF⟩ := gif hF
      refine Go.run qX1_dy IX1_ok 5 5 (20, [(0, .ref 0), (1, .int arm)], [.int (fy arm.toNatClampNeg)], [(0, .inr (1, [.ref 1, .ref 2])), (2, .inl (0, 80, .inl fy))]) [gvp arm 80] rfl ⟨hc3, trivial⟩ ?_
      obtain rfl := Option.some.inj hF
      exact Tr_i qX1_dy 11 rfl rfl ⟨rfl, rfl⟩
def R_X1_canMean : Room := { frames := 3, cells := 0, slots := 0, locals := 82 }
noncomputable def FL_X1_canMean_3 (fx : Nat → Int32) (fy : Nat → Int32) (sz : Int32) (fo : Int32) (tu : Int32) (f : Nat → Int32) (th : Int32) (px : Int32) (py : Int32) (kk43 : Int32 → Option Int32) : Nat → Int32 → Option Int32
  | 0, _ => none
  | fu + 1, l5_3 => if 80 ≤ l5_3 then (kk43 l5_3) else (if gvp l5_3 80 then (if gvp l5_3 80 then ((F_X2_meansJust sz fo tu f th px py (fx l5_3.toNatClampNeg) (fy l5_3.toNatClampNeg)).bind fun r1034 => if r1034 = 0 then (FL_X1_canMean_3 fx fy sz fo tu f th px py kk43 fu (l5_3 + 1)) else (some 1)) else none) else none)
noncomputable def F_X1_canMean (fx : Nat → Int32) (fy : Nat → Int32) (sz : Int32) (fo : Int32) (tu : Int32) (f : Nat → Int32) (th : Int32) (px : Int32) (py : Int32) : Option Int32 :=
  FL_X1_canMean_3 fx fy sz fo tu f th px py (fun l5_3 => some 0) gN0 0
set_option maxRecDepth 100000 in
set_option maxHeartbeats 4000000 in
theorem t_X1_canMean_3 (fx : Nat → Int32) (fy : Nat → Int32) (sz : Int32) (fo : Int32) (tu : Int32) (f : Nat → Int32) (th : Int32) (px : Int32) (py : Int32) (kk43 : Int32 → Option Int32) (rr : Int32)  (hk43 : ∀ (l5_3 : Int32), kk43 l5_3 = some rr → Go mX1_canMean R_X1_canMean (gRet mX1_canMean (fun r0 w0 => r0 = some (.int rr) ∧ w0 = [(0, .inr (1, [.ref 1, .ref 2])), (1, .inl (0, 80, .inl fx)), (2, .inl (0, 80, .inl fy)), (3, .inr (2, [.int 5, .int 10, .ref 4, .int sz, .int fo, .int tu])), (4, .inl (0, 50, .inl f))])) (43, [(0, .ref 0), (1, .ref 3), (2, .int th), (3, .int px), (4, .int py), (5, .int l5_3)], [], [(0, .inr (1, [.ref 1, .ref 2])), (1, .inl (0, 80, .inl fx)), (2, .inl (0, 80, .inl fy)), (3, .inr (2, [.int 5, .int 10, .ref 4, .int sz, .int fo, .int tu])), (4, .inl (0, 50, .inl f))])) : ∀ (fu : Nat) (l5_3 : Int32), FL_X1_canMean_3 fx fy sz fo tu f th px py kk43 fu l5_3 = some rr → Go mX1_canMean R_X1_canMean (gRet mX1_canMean (fun r0 w0 => r0 = some (.int rr) ∧ w0 = [(0, .inr (1, [.ref 1, .ref 2])), (1, .inl (0, 80, .inl fx)), (2, .inl (0, 80, .inl fy)), (3, .inr (2, [.int 5, .int 10, .ref 4, .int sz, .int fo, .int tu])), (4, .inl (0, 50, .inl f))])) (3, [(0, .ref 0), (1, .ref 3), (2, .int th), (3, .int px), (4, .int py), (5, .int l5_3)], [], [(0, .inr (1, [.ref 1, .ref 2])), (1, .inl (0, 80, .inl fx)), (2, .inl (0, 80, .inl fy)), (3, .inr (2, [.int 5, .int 10, .ref 4, .int sz, .int fo, .int tu])), (4, .inl (0, 50, .inl f))]) := by
  intro fu
  induction fu with
  | zero =>
    intro l5_3 hF
    cases hF
  | succ fu ih =>
    intro l5_3 hF
    unfold FL_X1_canMean_3 at hF
    refine Go.run qX1_canMean IX1_ok 2 2 (7, [(0, .ref 0), (1, .ref 3), (2, .int th), (3, .int px), (4, .int py), (5, .int l5_3)], [.int 80, .int l5_3], [(0, .inr (1, [.ref 1, .ref 2])), (1, .inl (0, 80, .inl fx)), (2, .inl (0, 80, .inl fy)), (3, .inr (2, [.int 5, .int 10, .ref 4, .int sz, .int fo, .int tu])), (4, .inl (0, 50, .inl f))]) [] rfl trivial ?_
    refine Tc_ge qX1_canMean 4 36 43 rfl rfl (fun hb1031 => ?_) (fun hb1031 => ?_)
    · replace hF := gpos hb1031 hF
      exact hk43 l5_3 hF
    · replace hF := gneg hb1031 hF
      obtain ⟨hc1032, hF⟩ := gif hF
      obtain ⟨hc1033, hF⟩ := gif hF
      refine Go.run qX1_canMean IX1_ok 5 12 (29, [(0, .ref 0), (1, .ref 3), (2, .int th), (3, .int px), (4, .int py), (5, .int l5_3)], [.int (fy l5_3.toNatClampNeg), .int (fx l5_3.toNatClampNeg), .int py, .int px, .int th, .ref 3], [(0, .inr (1, [.ref 1, .ref 2])), (1, .inl (0, 80, .inl fx)), (2, .inl (0, 80, .inl fy)), (3, .inr (2, [.int 5, .int 10, .ref 4, .int sz, .int fo, .int tu])), (4, .inl (0, 50, .inl f))]) [gvp l5_3 80, gvp l5_3 80] rfl ⟨hc1032, hc1033, trivial⟩ ?_
      obtain ⟨r1034, h1035, hF⟩ := gbind hF
      refine Tk_v qX1_canMean 17 rfl (c_X2_meansJust sz fo tu f th px py (fx l5_3.toNatClampNeg) (fy l5_3.toNatClampNeg) r1034 h1035) kX1_20_2 0 rfl rfl (gr [3, 4]) [3, 4] rfl rfl rfl rfl ⟨rfl, rfl, by decide, by decide⟩ [] rfl (Nat.le_of_ble_eq_true rfl) [.int r1034] rfl [(0, .inr (1, [.ref 1, .ref 2])), (1, .inl (0, 80, .inl fx)), (2, .inl (0, 80, .inl fy)), (3, .inr (2, [.int 5, .int 10, .ref 4, .int sz, .int fo, .int tu])), (4, .inl (0, 50, .inl f))] rfl ?_
      refine Ti_eq qX1_canMean 18 5 37 rfl rfl (fun hb1036 => ?_) (fun hb1036 => ?_)
      · replace hF := gpos hb1036 hF
        refine Go.run qX1_canMean IX1_ok 21 2 (3, [(5, .int (l5_3 + 1)), (0, .ref 0), (1, .ref 3), (2, .int th), (3, .int px), (4, .int py)], [], [(0, .inr (1, [.ref 1, .ref 2])), (1, .inl (0, 80, .inl fx)), (2, .inl (0, 80, .inl fy)), (3, .inr (2, [.int 5, .int 10, .ref 4, .int sz, .int fo, .int tu])), (4, .inl (0, 50, .inl f))]) [] rfl trivial ?_
        refine Go.loc [1, 2, 3, 4, 5, 0] rfl ?_
        exact ih (l5_3 + 1) hF
      · replace hF := gneg hb1036 hF
        refine Go.run qX1_canMean IX1_ok 19 1 (36, [(0, .ref 0), (1, .ref 3), (2, .int th), (3, .int px), (4, .int py), (5, .int l5_3)], [.int 1], [(0, .inr (1, [.ref 1, .ref 2])), (1, .inl (0, 80, .inl fx)), (2, .inl (0, 80, .inl fy)), (3, .inr (2, [.int 5, .int 10, .ref 4, .int sz, .int fo, .int tu])), (4, .inl (0, 50, .inl f))]) [] rfl trivial ?_
        obtain rfl := Option.some.inj hF
        exact Tr_z qX1_canMean 20 rfl rfl (by decide) ⟨rfl, rfl⟩
set_option maxRecDepth 100000 in
set_option maxHeartbeats 4000000 in
theorem c_X1_canMean (fx : Nat → Int32) (fy : Nat → Int32) (sz : Int32) (fo : Int32) (tu : Int32) (f : Nat → Int32) (th : Int32) (px : Int32) (py : Int32) (rr : Int32) (hF : F_X1_canMean fx fy sz fo tu f th px py = some rr) : Cd mX1_canMean R_X1_canMean [.ref 0, .ref 3, .int th, .int px, .int py] [(0, .inr (1, [.ref 1, .ref 2])), (1, .inl (0, 80, .inl fx)), (2, .inl (0, 80, .inl fy)), (3, .inr (2, [.int 5, .int 10, .ref 4, .int sz, .int fo, .int tu])), (4, .inl (0, 50, .inl f))] (some (.int rr)) [(0, .inr (1, [.ref 1, .ref 2])), (1, .inl (0, 80, .inl fx)), (2, .inl (0, 80, .inl fy)), (3, .inr (2, [.int 5, .int 10, .ref 4, .int sz, .int fo, .int tu])), (4, .inl (0, 50, .inl f))] := by
  unfold F_X1_canMean at hF
  refine Ct.of rfl (Nat.le_of_ble_eq_true rfl) ?_
  refine Go.run qX1_canMean IX1_ok 0 2 (3, [(5, .int 0), (0, .ref 0), (1, .ref 3), (2, .int th), (3, .int px), (4, .int py)], [], [(0, .inr (1, [.ref 1, .ref 2])), (1, .inl (0, 80, .inl fx)), (2, .inl (0, 80, .inl fy)), (3, .inr (2, [.int 5, .int 10, .ref 4, .int sz, .int fo, .int tu])), (4, .inl (0, 50, .inl f))]) [] rfl trivial ?_
  refine Go.loc [1, 2, 3, 4, 5, 0] rfl ?_
  refine t_X1_canMean_3 fx fy sz fo tu f th px py _ rr (fun l5_3 hF => ?_) gN0 0 hF
  refine Go.run qX1_canMean IX1_ok 23 1 (44, [(0, .ref 0), (1, .ref 3), (2, .int th), (3, .int px), (4, .int py), (5, .int l5_3)], [.int 0], [(0, .inr (1, [.ref 1, .ref 2])), (1, .inl (0, 80, .inl fx)), (2, .inl (0, 80, .inl fy)), (3, .inr (2, [.int 5, .int 10, .ref 4, .int sz, .int fo, .int tu])), (4, .inl (0, 50, .inl f))]) [] rfl trivial ?_
  obtain rfl := Option.some.inj hF
  exact Tr_z qX1_canMean 24 rfl rfl (by decide) ⟨rfl, rfl⟩
def R_X1_armsFor : Room := { frames := 3, cells := 0, slots := 0, locals := 82 }
noncomputable def FL_X1_armsFor_6 (fx : Nat → Int32) (fy : Nat → Int32) (sz : Int32) (fo : Int32) (tu : Int32) (f : Nat → Int32) (th : Int32) (px : Int32) (py : Int32) (kk54 : Int32 → Int32 → Option Int32) : Nat → Int32 → Int32 → Option Int32
  | 0, _, _ => none
  | fu + 1, l5_6, l6_6 => if 80 ≤ l6_6 then (kk54 l5_6 l6_6) else (if gvp l6_6 80 then (if gvp l6_6 80 then ((F_X2_meansJust sz fo tu f th px py (fx l6_6.toNatClampNeg) (fy l6_6.toNatClampNeg)).bind fun r1064 => if r1064 = 0 then (FL_X1_armsFor_6 fx fy sz fo tu f th px py kk54 fu (l5_6 + 0) (l6_6 + 1)) else (FL_X1_armsFor_6 fx fy sz fo tu f th px py kk54 fu (l5_6 + 1) (l6_6 + 1))) else none) else none)
noncomputable def F_X1_armsFor (fx : Nat → Int32) (fy : Nat → Int32) (sz : Int32) (fo : Int32) (tu : Int32) (f : Nat → Int32) (th : Int32) (px : Int32) (py : Int32) : Option Int32 :=
  FL_X1_armsFor_6 fx fy sz fo tu f th px py (fun l5_6 l6_6 => some l5_6) gN0 0 0
set_option maxRecDepth 100000 in
set_option maxHeartbeats 4000000 in
theorem t_X1_armsFor_6 (fx : Nat → Int32) (fy : Nat → Int32) (sz : Int32) (fo : Int32) (tu : Int32) (f : Nat → Int32) (th : Int32) (px : Int32) (py : Int32) (kk54 : Int32 → Int32 → Option Int32) (rr : Int32)  (hk54 : ∀ (l5_6 : Int32) (l6_6 : Int32), kk54 l5_6 l6_6 = some rr → Go mX1_armsFor R_X1_armsFor (gRet mX1_armsFor (fun r0 w0 => r0 = some (.int rr) ∧ w0 = [(0, .inr (1, [.ref 1, .ref 2])), (1, .inl (0, 80, .inl fx)), (2, .inl (0, 80, .inl fy)), (3, .inr (2, [.int 5, .int 10, .ref 4, .int sz, .int fo, .int tu])), (4, .inl (0, 50, .inl f))])) (54, [(0, .ref 0), (1, .ref 3), (2, .int th), (3, .int px), (4, .int py), (5, .int l5_6), (6, .int l6_6)], [], [(0, .inr (1, [.ref 1, .ref 2])), (1, .inl (0, 80, .inl fx)), (2, .inl (0, 80, .inl fy)), (3, .inr (2, [.int 5, .int 10, .ref 4, .int sz, .int fo, .int tu])), (4, .inl (0, 50, .inl f))])) : ∀ (fu : Nat) (l5_6 : Int32) (l6_6 : Int32), FL_X1_armsFor_6 fx fy sz fo tu f th px py kk54 fu l5_6 l6_6 = some rr → Go mX1_armsFor R_X1_armsFor (gRet mX1_armsFor (fun r0 w0 => r0 = some (.int rr) ∧ w0 = [(0, .inr (1, [.ref 1, .ref 2])), (1, .inl (0, 80, .inl fx)), (2, .inl (0, 80, .inl fy)), (3, .inr (2, [.int 5, .int 10, .ref 4, .int sz, .int fo, .int tu])), (4, .inl (0, 50, .inl f))])) (6, [(0, .ref 0), (1, .ref 3), (2, .int th), (3, .int px), (4, .int py), (5, .int l5_6), (6, .int l6_6)], [], [(0, .inr (1, [.ref 1, .ref 2])), (1, .inl (0, 80, .inl fx)), (2, .inl (0, 80, .inl fy)), (3, .inr (2, [.int 5, .int 10, .ref 4, .int sz, .int fo, .int tu])), (4, .inl (0, 50, .inl f))]) := by
  intro fu
  induction fu with
  | zero =>
    intro l5_6 l6_6 hF
    cases hF
  | succ fu ih =>
    intro l5_6 l6_6 hF
    unfold FL_X1_armsFor_6 at hF
    refine Go.run qX1_armsFor IX1_ok 4 2 (10, [(0, .ref 0), (1, .ref 3), (2, .int th), (3, .int px), (4, .int py), (5, .int l5_6), (6, .int l6_6)], [.int 80, .int l6_6], [(0, .inr (1, [.ref 1, .ref 2])), (1, .inl (0, 80, .inl fx)), (2, .inl (0, 80, .inl fy)), (3, .inr (2, [.int 5, .int 10, .ref 4, .int sz, .int fo, .int tu])), (4, .inl (0, 50, .inl f))]) [] rfl trivial ?_
    refine Tc_ge qX1_armsFor 6 44 54 rfl rfl (fun hb1061 => ?_) (fun hb1061 => ?_)
    · replace hF := gpos hb1061 hF
      exact hk54 l5_6 l6_6 hF
    · replace hF := gneg hb1061 hF
      obtain ⟨hc1062, hF⟩ := gif hF
      obtain ⟨hc1063, hF⟩ := gif hF
      refine Go.run qX1_armsFor IX1_ok 7 13 (34, [(0, .ref 0), (1, .ref 3), (2, .int th), (3, .int px), (4, .int py), (5, .int l5_6), (6, .int l6_6)], [.int (fy l6_6.toNatClampNeg), .int (fx l6_6.toNatClampNeg), .int py, .int px, .int th, .ref 3, .int l5_6], [(0, .inr (1, [.ref 1, .ref 2])), (1, .inl (0, 80, .inl fx)), (2, .inl (0, 80, .inl fy)), (3, .inr (2, [.int 5, .int 10, .ref 4, .int sz, .int fo, .int tu])), (4, .inl (0, 50, .inl f))]) [gvp l6_6 80, gvp l6_6 80] rfl ⟨hc1062, hc1063, trivial⟩ ?_
      obtain ⟨r1064, h1065, hF⟩ := gbind hF
      refine Tk_v qX1_armsFor 20 rfl (c_X2_meansJust sz fo tu f th px py (fx l6_6.toNatClampNeg) (fy l6_6.toNatClampNeg) r1064 h1065) kX1_20_2 0 rfl rfl (gr [3, 4]) [3, 4] rfl rfl rfl rfl ⟨rfl, rfl, by decide, by decide⟩ [.int l5_6] rfl (Nat.le_of_ble_eq_true rfl) [.int r1064, .int l5_6] rfl [(0, .inr (1, [.ref 1, .ref 2])), (1, .inl (0, 80, .inl fx)), (2, .inl (0, 80, .inl fy)), (3, .inr (2, [.int 5, .int 10, .ref 4, .int sz, .int fo, .int tu])), (4, .inl (0, 50, .inl f))] rfl ?_
      refine Ti_eq qX1_armsFor 21 7 44 rfl rfl (fun hb1066 => ?_) (fun hb1066 => ?_)
      · replace hF := gpos hb1066 hF
        refine Go.run qX1_armsFor IX1_ok 24 5 (6, [(6, .int (l6_6 + 1)), (5, .int (l5_6 + 0)), (0, .ref 0), (1, .ref 3), (2, .int th), (3, .int px), (4, .int py)], [], [(0, .inr (1, [.ref 1, .ref 2])), (1, .inl (0, 80, .inl fx)), (2, .inl (0, 80, .inl fy)), (3, .inr (2, [.int 5, .int 10, .ref 4, .int sz, .int fo, .int tu])), (4, .inl (0, 50, .inl f))]) [] rfl trivial ?_
        refine Go.loc [2, 3, 4, 5, 6, 1, 0] rfl ?_
        exact ih (l5_6 + 0) (l6_6 + 1) hF
      · replace hF := gneg hb1066 hF
        refine Go.run qX1_armsFor IX1_ok 22 2 (45, [(0, .ref 0), (1, .ref 3), (2, .int th), (3, .int px), (4, .int py), (5, .int l5_6), (6, .int l6_6)], [.int 1, .int l5_6], [(0, .inr (1, [.ref 1, .ref 2])), (1, .inl (0, 80, .inl fx)), (2, .inl (0, 80, .inl fy)), (3, .inr (2, [.int 5, .int 10, .ref 4, .int sz, .int fo, .int tu])), (4, .inl (0, 50, .inl f))]) [] rfl trivial ?_
        refine Go.run qX1_armsFor IX1_ok 25 4 (6, [(6, .int (l6_6 + 1)), (5, .int (l5_6 + 1)), (0, .ref 0), (1, .ref 3), (2, .int th), (3, .int px), (4, .int py)], [], [(0, .inr (1, [.ref 1, .ref 2])), (1, .inl (0, 80, .inl fx)), (2, .inl (0, 80, .inl fy)), (3, .inr (2, [.int 5, .int 10, .ref 4, .int sz, .int fo, .int tu])), (4, .inl (0, 50, .inl f))]) [] rfl trivial ?_
        refine Go.loc [2, 3, 4, 5, 6, 1, 0] rfl ?_
        exact ih (l5_6 + 1) (l6_6 + 1) hF
set_option maxRecDepth 100000 in
set_option maxHeartbeats 4000000 in
theorem c_X1_armsFor (fx : Nat → Int32) (fy : Nat → Int32) (sz : Int32) (fo : Int32) (tu : Int32) (f : Nat → Int32) (th : Int32) (px : Int32) (py : Int32) (rr : Int32) (hF : F_X1_armsFor fx fy sz fo tu f th px py = some rr) : Cd mX1_armsFor R_X1_armsFor [.ref 0, .ref 3, .int th, .int px, .int py] [(0, .inr (1, [.ref 1, .ref 2])), (1, .inl (0, 80, .inl fx)), (2, .inl (0, 80, .inl fy)), (3, .inr (2, [.int 5, .int 10, .ref 4, .int sz, .int fo, .int tu])), (4, .inl (0, 50, .inl f))] (some (.int rr)) [(0, .inr (1, [.ref 1, .ref 2])), (1, .inl (0, 80, .inl fx)), (2, .inl (0, 80, .inl fy)), (3, .inr (2, [.int 5, .int 10, .ref 4, .int sz, .int fo, .int tu])), (4, .inl (0, 50, .inl f))] := by
  unfold F_X1_armsFor at hF
  refine Ct.of rfl (Nat.le_of_ble_eq_true rfl) ?_
  refine Go.run qX1_armsFor IX1_ok 0 4 (6, [(6, .int 0), (5, .int 0), (0, .ref 0), (1, .ref 3), (2, .int th), (3, .int px), (4, .int py)], [], [(0, .inr (1, [.ref 1, .ref 2])), (1, .inl (0, 80, .inl fx)), (2, .inl (0, 80, .inl fy)), (3, .inr (2, [.int 5, .int 10, .ref 4, .int sz, .int fo, .int tu])), (4, .inl (0, 50, .inl f))]) [] rfl trivial ?_
  refine Go.loc [2, 3, 4, 5, 6, 1, 0] rfl ?_
  refine t_X1_armsFor_6 fx fy sz fo tu f th px py _ rr (fun l5_6 l6_6 hF => ?_) gN0 0 0 hF
  refine Go.run qX1_armsFor IX1_ok 29 1 (56, [(0, .ref 0), (1, .ref 3), (2, .int th), (3, .int px), (4, .int py), (5, .int l5_6), (6, .int l6_6)], [.int l5_6], [(0, .inr (1, [.ref 1, .ref 2])), (1, .inl (0, 80, .inl fx)), (2, .inl (0, 80, .inl fy)), (3, .inr (2, [.int 5, .int 10, .ref 4, .int sz, .int fo, .int tu])), (4, .inl (0, 50, .inl f))]) [] rfl trivial ?_
  obtain rfl := Option.some.inj hF
  exact Tr_i qX1_armsFor 30 rfl rfl ⟨rfl, rfl⟩
def R_X5_sentences : Room := { frames := 1, cells := 0, slots := 0, locals := 23 }
noncomputable def F_X5_sentences (az : Int32) (af : Nat → Int32) : Option Int32 :=
  (F_X4_size az).bind fun r1 => if r1 = 0 then (some 0) else ((F_X4_size az).bind fun r4 => (F_X4_get 4 az 72 af (r4 - 1) 0).bind fun r6 => some (r6 + 1))
set_option maxRecDepth 100000 in
set_option maxHeartbeats 4000000 in
theorem c_X5_sentences (az : Int32) (af : Nat → Int32) (rr : Int32) (hF : F_X5_sentences az af = some rr) : Cd mX5_sentences R_X5_sentences [.ref 0] [(0, .inr (5, [.ref 1, .ref 3, .ref 5, .ref 7, .ref 9])), (5, .inr (4, [.int 4, .int 18, .ref 6, .int az])), (6, .inl (0, 72, .inl af))] (some (.int rr)) [(0, .inr (5, [.ref 1, .ref 3, .ref 5, .ref 7, .ref 9])), (5, .inr (4, [.int 4, .int 18, .ref 6, .int az])), (6, .inl (0, 72, .inl af))] := by
  unfold F_X5_sentences at hF
  refine Ct.of rfl (Nat.le_of_ble_eq_true rfl) ?_
  refine Go.run qX5_sentences IX5_ok 0 2 (4, [(0, .ref 0)], [.ref 5], [(0, .inr (5, [.ref 1, .ref 3, .ref 5, .ref 7, .ref 9])), (5, .inr (4, [.int 4, .int 18, .ref 6, .int az])), (6, .inl (0, 72, .inl af))]) [] rfl trivial ?_
  obtain ⟨r1, h2, hF⟩ := gbind hF
  refine Tk_v qX5_sentences 2 rfl (c_X4_size__4 4 18 az r1 h2) kX5_36_4 0 rfl rfl (gr [5, 6]) [1] rfl rfl rfl rfl ⟨rfl, rfl, by decide, by decide⟩ [] rfl (Nat.le_of_ble_eq_true rfl) [.int r1] rfl [(0, .inr (5, [.ref 1, .ref 3, .ref 5, .ref 7, .ref 9])), (5, .inr (4, [.int 4, .int 18, .ref 6, .int az])), (6, .inl (0, 72, .inl af))] rfl ?_
  refine Ti_ne qX5_sentences 3 7 14 rfl rfl (fun hb3 => ?_) (fun hb3 => ?_)
  · replace hF := gneg hb3 hF
    refine Go.run qX5_sentences IX5_ok 6 4 (22, [(0, .ref 0)], [.ref 5, .ref 5], [(0, .inr (5, [.ref 1, .ref 3, .ref 5, .ref 7, .ref 9])), (5, .inr (4, [.int 4, .int 18, .ref 6, .int az])), (6, .inl (0, 72, .inl af))]) [] rfl trivial ?_
    obtain ⟨r4, h5, hF⟩ := gbind hF
    refine Tk_v qX5_sentences 10 rfl (c_X4_size__4 4 18 az r4 h5) kX5_36_4 0 rfl rfl (gr [5, 6]) [1] rfl rfl rfl rfl ⟨rfl, rfl, by decide, by decide⟩ [.ref 5] rfl (Nat.le_of_ble_eq_true rfl) [.int r4, .ref 5] rfl [(0, .inr (5, [.ref 1, .ref 3, .ref 5, .ref 7, .ref 9])), (5, .inr (4, [.int 4, .int 18, .ref 6, .int az])), (6, .inl (0, 72, .inl af))] rfl ?_
    refine Go.run qX5_sentences IX5_ok 11 3 (28, [(0, .ref 0)], [.int 0, .int (r4 - 1), .ref 5], [(0, .inr (5, [.ref 1, .ref 3, .ref 5, .ref 7, .ref 9])), (5, .inr (4, [.int 4, .int 18, .ref 6, .int az])), (6, .inl (0, 72, .inl af))]) [] rfl trivial ?_
    obtain ⟨r6, h7, hF⟩ := gbind hF
    refine Tk_v qX5_sentences 14 rfl (c_X4_get__4 4 18 az 72 af (r4 - 1) 0 r6 h7) kX5_40_4 0 rfl rfl (gr [5, 6]) [1, 2] rfl rfl rfl rfl ⟨rfl, rfl, by decide, by decide⟩ [] rfl (Nat.le_of_ble_eq_true rfl) [.int r6] rfl [(0, .inr (5, [.ref 1, .ref 3, .ref 5, .ref 7, .ref 9])), (5, .inr (4, [.int 4, .int 18, .ref 6, .int az])), (6, .inl (0, 72, .inl af))] rfl ?_
    refine Go.run qX5_sentences IX5_ok 15 2 (33, [(0, .ref 0)], [.int (r6 + 1)], [(0, .inr (5, [.ref 1, .ref 3, .ref 5, .ref 7, .ref 9])), (5, .inr (4, [.int 4, .int 18, .ref 6, .int az])), (6, .inl (0, 72, .inl af))]) [] rfl trivial ?_
    obtain rfl := Option.some.inj hF
    exact Tr_i qX5_sentences 17 rfl rfl ⟨rfl, rfl⟩
  · replace hF := gpos hb3 hF
    refine Go.run qX5_sentences IX5_ok 4 2 (33, [(0, .ref 0)], [.int 0], [(0, .inr (5, [.ref 1, .ref 3, .ref 5, .ref 7, .ref 9])), (5, .inr (4, [.int 4, .int 18, .ref 6, .int az])), (6, .inl (0, 72, .inl af))]) [] rfl trivial ?_
    obtain rfl := Option.some.inj hF
    exact Tr_i qX5_sentences 17 rfl rfl ⟨rfl, rfl⟩
def R_X5_takeAll : Room := { frames := 2, cells := 0, slots := 0, locals := 81 }
noncomputable def F_X5_takeAll (sz : Int32) (f : Nat → Int32) (pz : Int32) (pf : Nat → Int32) (az : Int32) (af : Nat → Int32) (lz : Int32) (lf : Nat → Int32) (oz : Int32) (of : Nat → Int32) (sz2 : Int32) (fo2 : Int32) (tu2 : Int32) (f2 : Nat → Int32) (pz2 : Int32) (pf2 : Nat → Int32) (az2 : Int32) (af2 : Nat → Int32) (lz2 : Int32) (lf2 : Nat → Int32) (oz2 : Int32) (of2 : Nat → Int32) : Option (Int32 × Int32 × Int32 × (Nat → Int32) × Int32 × (Nat → Int32) × Int32 × (Nat → Int32) × Int32 × (Nat → Int32) × Int32 × (Nat → Int32)) :=
  (F_X4_takeRows sz 50 f sz2 50 f2).bind fun r1 => (F_X2_takeLaws fo2 tu2).bind fun r3 => (F_X4_takeRows pz 12 pf pz2 12 pf2).bind fun r5 => (F_X4_takeRows az 72 af az2 72 af2).bind fun r7 => (F_X4_takeRows lz 16 lf lz2 16 lf2).bind fun r9 => (F_X4_takeRows oz 12 of oz2 12 of2).bind fun r11 => some (r1.1, r3.1, r3.2, r1.2, r5.1, r5.2, r7.1, r7.2, r9.1, r9.2, r11.1, r11.2)
set_option maxRecDepth 100000 in
set_option maxHeartbeats 4000000 in
theorem c_X5_takeAll (sz : Int32) (fo : Int32) (tu : Int32) (f : Nat → Int32) (pz : Int32) (pf : Nat → Int32) (az : Int32) (af : Nat → Int32) (lz : Int32) (lf : Nat → Int32) (oz : Int32) (of : Nat → Int32) (sz2 : Int32) (fo2 : Int32) (tu2 : Int32) (f2 : Nat → Int32) (pz2 : Int32) (pf2 : Nat → Int32) (az2 : Int32) (af2 : Nat → Int32) (lz2 : Int32) (lf2 : Nat → Int32) (oz2 : Int32) (of2 : Nat → Int32) (rr : Int32 × Int32 × Int32 × (Nat → Int32) × Int32 × (Nat → Int32) × Int32 × (Nat → Int32) × Int32 × (Nat → Int32) × Int32 × (Nat → Int32)) (hF : F_X5_takeAll sz f pz pf az af lz lf oz of sz2 fo2 tu2 f2 pz2 pf2 az2 af2 lz2 lf2 oz2 of2 = some rr) : Cd mX5_takeAll R_X5_takeAll [.ref 0, .ref 11] [(0, .inr (5, [.ref 1, .ref 3, .ref 5, .ref 7, .ref 9])), (1, .inr (2, [.int 5, .int 10, .ref 2, .int sz, .int fo, .int tu])), (2, .inl (0, 50, .inl f)), (3, .inr (4, [.int 2, .int 6, .ref 4, .int pz])), (4, .inl (0, 12, .inl pf)), (5, .inr (4, [.int 4, .int 18, .ref 6, .int az])), (6, .inl (0, 72, .inl af)), (7, .inr (4, [.int 2, .int 8, .ref 8, .int lz])), (8, .inl (0, 16, .inl lf)), (9, .inr (4, [.int 3, .int 4, .ref 10, .int oz])), (10, .inl (0, 12, .inl of)), (11, .inr (5, [.ref 12, .ref 14, .ref 16, .ref 18, .ref 20])), (12, .inr (2, [.int 5, .int 10, .ref 13, .int sz2, .int fo2, .int tu2])), (13, .inl (0, 50, .inl f2)), (14, .inr (4, [.int 2, .int 6, .ref 15, .int pz2])), (15, .inl (0, 12, .inl pf2)), (16, .inr (4, [.int 4, .int 18, .ref 17, .int az2])), (17, .inl (0, 72, .inl af2)), (18, .inr (4, [.int 2, .int 8, .ref 19, .int lz2])), (19, .inl (0, 16, .inl lf2)), (20, .inr (4, [.int 3, .int 4, .ref 21, .int oz2])), (21, .inl (0, 12, .inl of2))] (none) [(0, .inr (5, [.ref 1, .ref 3, .ref 5, .ref 7, .ref 9])), (1, .inr (2, [.int 5, .int 10, .ref 2, .int rr.1, .int rr.2.1, .int rr.2.2.1])), (2, .inl (0, 50, .inl rr.2.2.2.1)), (3, .inr (4, [.int 2, .int 6, .ref 4, .int rr.2.2.2.2.1])), (4, .inl (0, 12, .inl rr.2.2.2.2.2.1)), (5, .inr (4, [.int 4, .int 18, .ref 6, .int rr.2.2.2.2.2.2.1])), (6, .inl (0, 72, .inl rr.2.2.2.2.2.2.2.1)), (7, .inr (4, [.int 2, .int 8, .ref 8, .int rr.2.2.2.2.2.2.2.2.1])), (8, .inl (0, 16, .inl rr.2.2.2.2.2.2.2.2.2.1)), (9, .inr (4, [.int 3, .int 4, .ref 10, .int rr.2.2.2.2.2.2.2.2.2.2.1])), (10, .inl (0, 12, .inl rr.2.2.2.2.2.2.2.2.2.2.2)), (11, .inr (5, [.ref 12, .ref 14, .ref 16, .ref 18, .ref 20])), (12, .inr (2, [.int 5, .int 10, .ref 13, .int sz2, .int fo2, .int tu2])), (13, .inl (0, 50, .inl f2)), (14, .inr (4, [.int 2, .int 6, .ref 15, .int pz2])), (15, .inl (0, 12, .inl pf2)), (16, .inr (4, [.int 4, .int 18, .ref 17, .int az2])), (17, .inl (0, 72, .inl af2)), (18, .inr (4, [.int 2, .int 8, .ref 19, .int lz2])), (19, .inl (0, 16, .inl lf2)), (20, .inr (4, [.int 3, .int 4, .ref 21, .int oz2])), (21, .inl (0, 12, .inl of2))] := by
  unfold F_X5_takeAll at hF
  refine Ct.of rfl (Nat.le_of_ble_eq_true rfl) ?_
  refine Go.run qX5_takeAll IX5_ok 0 4 (8, [(0, .ref 0), (1, .ref 11)], [.ref 12, .ref 1], [(0, .inr (5, [.ref 1, .ref 3, .ref 5, .ref 7, .ref 9])), (1, .inr (2, [.int 5, .int 10, .ref 2, .int sz, .int fo, .int tu])), (2, .inl (0, 50, .inl f)), (3, .inr (4, [.int 2, .int 6, .ref 4, .int pz])), (4, .inl (0, 12, .inl pf)), (5, .inr (4, [.int 4, .int 18, .ref 6, .int az])), (6, .inl (0, 72, .inl af)), (7, .inr (4, [.int 2, .int 8, .ref 8, .int lz])), (8, .inl (0, 16, .inl lf)), (9, .inr (4, [.int 3, .int 4, .ref 10, .int oz])), (10, .inl (0, 12, .inl of)), (11, .inr (5, [.ref 12, .ref 14, .ref 16, .ref 18, .ref 20])), (12, .inr (2, [.int 5, .int 10, .ref 13, .int sz2, .int fo2, .int tu2])), (13, .inl (0, 50, .inl f2)), (14, .inr (4, [.int 2, .int 6, .ref 15, .int pz2])), (15, .inl (0, 12, .inl pf2)), (16, .inr (4, [.int 4, .int 18, .ref 17, .int az2])), (17, .inl (0, 72, .inl af2)), (18, .inr (4, [.int 2, .int 8, .ref 19, .int lz2])), (19, .inl (0, 16, .inl lf2)), (20, .inr (4, [.int 3, .int 4, .ref 21, .int oz2])), (21, .inl (0, 12, .inl of2))]) [] rfl trivial ?_
  obtain ⟨r1, h2, hF⟩ := gbind hF
  refine Tk_u qX5_takeAll 4 rfl (c_X4_takeRows__2 5 10 sz fo tu 50 f 5 10 sz2 fo2 tu2 50 f2 r1 h2) kX5_44_2 0 rfl rfl (gr [1, 2, 12, 13]) [1, 2, 12, 13] rfl rfl rfl rfl ⟨rfl, rfl, by decide, by decide⟩ [] rfl (Nat.le_of_ble_eq_true rfl) [] rfl [(0, .inr (5, [.ref 1, .ref 3, .ref 5, .ref 7, .ref 9])), (1, .inr (2, [.int 5, .int 10, .ref 2, .int r1.1, .int fo, .int tu])), (2, .inl (0, 50, .inl r1.2)), (3, .inr (4, [.int 2, .int 6, .ref 4, .int pz])), (4, .inl (0, 12, .inl pf)), (5, .inr (4, [.int 4, .int 18, .ref 6, .int az])), (6, .inl (0, 72, .inl af)), (7, .inr (4, [.int 2, .int 8, .ref 8, .int lz])), (8, .inl (0, 16, .inl lf)), (9, .inr (4, [.int 3, .int 4, .ref 10, .int oz])), (10, .inl (0, 12, .inl of)), (11, .inr (5, [.ref 12, .ref 14, .ref 16, .ref 18, .ref 20])), (12, .inr (2, [.int 5, .int 10, .ref 13, .int sz2, .int fo2, .int tu2])), (13, .inl (0, 50, .inl f2)), (14, .inr (4, [.int 2, .int 6, .ref 15, .int pz2])), (15, .inl (0, 12, .inl pf2)), (16, .inr (4, [.int 4, .int 18, .ref 17, .int az2])), (17, .inl (0, 72, .inl af2)), (18, .inr (4, [.int 2, .int 8, .ref 19, .int lz2])), (19, .inl (0, 16, .inl lf2)), (20, .inr (4, [.int 3, .int 4, .ref 21, .int oz2])), (21, .inl (0, 12, .inl of2))] rfl ?_
  refine Go.run qX5_takeAll IX5_ok 5 4 (19, [(0, .ref 0), (1, .ref 11)], [.ref 12, .ref 1], [(0, .inr (5, [.ref 1, .ref 3, .ref 5, .ref 7, .ref 9])), (1, .inr (2, [.int 5, .int 10, .ref 2, .int r1.1, .int fo, .int tu])), (2, .inl (0, 50, .inl r1.2)), (3, .inr (4, [.int 2, .int 6, .ref 4, .int pz])), (4, .inl (0, 12, .inl pf)), (5, .inr (4, [.int 4, .int 18, .ref 6, .int az])), (6, .inl (0, 72, .inl af)), (7, .inr (4, [.int 2, .int 8, .ref 8, .int lz])), (8, .inl (0, 16, .inl lf)), (9, .inr (4, [.int 3, .int 4, .ref 10, .int oz])), (10, .inl (0, 12, .inl of)), (11, .inr (5, [.ref 12, .ref 14, .ref 16, .ref 18, .ref 20])), (12, .inr (2, [.int 5, .int 10, .ref 13, .int sz2, .int fo2, .int tu2])), (13, .inl (0, 50, .inl f2)), (14, .inr (4, [.int 2, .int 6, .ref 15, .int pz2])), (15, .inl (0, 12, .inl pf2)), (16, .inr (4, [.int 4, .int 18, .ref 17, .int az2])), (17, .inl (0, 72, .inl af2)), (18, .inr (4, [.int 2, .int 8, .ref 19, .int lz2])), (19, .inl (0, 16, .inl lf2)), (20, .inr (4, [.int 3, .int 4, .ref 21, .int oz2])), (21, .inl (0, 12, .inl of2))]) [] rfl trivial ?_
  obtain ⟨r3, h4, hF⟩ := gbind hF
  refine Tk_v qX5_takeAll 9 rfl (c_X2_takeLaws r1.1 fo tu sz2 fo2 tu2 r3 h4) kX5_48_2 0 rfl rfl (gr [1, 2, 12, 13]) [1, 12] rfl rfl rfl rfl ⟨rfl, rfl, by decide, by decide⟩ [] rfl (Nat.le_of_ble_eq_true rfl) [] rfl [(0, .inr (5, [.ref 1, .ref 3, .ref 5, .ref 7, .ref 9])), (1, .inr (2, [.int 5, .int 10, .ref 2, .int r1.1, .int r3.1, .int r3.2])), (2, .inl (0, 50, .inl r1.2)), (3, .inr (4, [.int 2, .int 6, .ref 4, .int pz])), (4, .inl (0, 12, .inl pf)), (5, .inr (4, [.int 4, .int 18, .ref 6, .int az])), (6, .inl (0, 72, .inl af)), (7, .inr (4, [.int 2, .int 8, .ref 8, .int lz])), (8, .inl (0, 16, .inl lf)), (9, .inr (4, [.int 3, .int 4, .ref 10, .int oz])), (10, .inl (0, 12, .inl of)), (11, .inr (5, [.ref 12, .ref 14, .ref 16, .ref 18, .ref 20])), (12, .inr (2, [.int 5, .int 10, .ref 13, .int sz2, .int fo2, .int tu2])), (13, .inl (0, 50, .inl f2)), (14, .inr (4, [.int 2, .int 6, .ref 15, .int pz2])), (15, .inl (0, 12, .inl pf2)), (16, .inr (4, [.int 4, .int 18, .ref 17, .int az2])), (17, .inl (0, 72, .inl af2)), (18, .inr (4, [.int 2, .int 8, .ref 19, .int lz2])), (19, .inl (0, 16, .inl lf2)), (20, .inr (4, [.int 3, .int 4, .ref 21, .int oz2])), (21, .inl (0, 12, .inl of2))] rfl ?_
  refine Go.run qX5_takeAll IX5_ok 10 4 (30, [(0, .ref 0), (1, .ref 11)], [.ref 14, .ref 3], [(0, .inr (5, [.ref 1, .ref 3, .ref 5, .ref 7, .ref 9])), (1, .inr (2, [.int 5, .int 10, .ref 2, .int r1.1, .int r3.1, .int r3.2])), (2, .inl (0, 50, .inl r1.2)), (3, .inr (4, [.int 2, .int 6, .ref 4, .int pz])), (4, .inl (0, 12, .inl pf)), (5, .inr (4, [.int 4, .int 18, .ref 6, .int az])), (6, .inl (0, 72, .inl af)), (7, .inr (4, [.int 2, .int 8, .ref 8, .int lz])), (8, .inl (0, 16, .inl lf)), (9, .inr (4, [.int 3, .int 4, .ref 10, .int oz])), (10, .inl (0, 12, .inl of)), (11, .inr (5, [.ref 12, .ref 14, .ref 16, .ref 18, .ref 20])), (12, .inr (2, [.int 5, .int 10, .ref 13, .int sz2, .int fo2, .int tu2])), (13, .inl (0, 50, .inl f2)), (14, .inr (4, [.int 2, .int 6, .ref 15, .int pz2])), (15, .inl (0, 12, .inl pf2)), (16, .inr (4, [.int 4, .int 18, .ref 17, .int az2])), (17, .inl (0, 72, .inl af2)), (18, .inr (4, [.int 2, .int 8, .ref 19, .int lz2])), (19, .inl (0, 16, .inl lf2)), (20, .inr (4, [.int 3, .int 4, .ref 21, .int oz2])), (21, .inl (0, 12, .inl of2))]) [] rfl trivial ?_
  obtain ⟨r5, h6, hF⟩ := gbind hF
  refine Tk_v qX5_takeAll 14 rfl (c_X4_takeRows__4 2 6 pz 12 pf 2 6 pz2 12 pf2 r5 h6) kX5_52_4 0 rfl rfl (gr [3, 4, 14, 15]) [3, 4, 14, 15] rfl rfl rfl rfl ⟨rfl, rfl, by decide, by decide⟩ [] rfl (Nat.le_of_ble_eq_true rfl) [] rfl [(0, .inr (5, [.ref 1, .ref 3, .ref 5, .ref 7, .ref 9])), (1, .inr (2, [.int 5, .int 10, .ref 2, .int r1.1, .int r3.1, .int r3.2])), (2, .inl (0, 50, .inl r1.2)), (3, .inr (4, [.int 2, .int 6, .ref 4, .int r5.1])), (4, .inl (0, 12, .inl r5.2)), (5, .inr (4, [.int 4, .int 18, .ref 6, .int az])), (6, .inl (0, 72, .inl af)), (7, .inr (4, [.int 2, .int 8, .ref 8, .int lz])), (8, .inl (0, 16, .inl lf)), (9, .inr (4, [.int 3, .int 4, .ref 10, .int oz])), (10, .inl (0, 12, .inl of)), (11, .inr (5, [.ref 12, .ref 14, .ref 16, .ref 18, .ref 20])), (12, .inr (2, [.int 5, .int 10, .ref 13, .int sz2, .int fo2, .int tu2])), (13, .inl (0, 50, .inl f2)), (14, .inr (4, [.int 2, .int 6, .ref 15, .int pz2])), (15, .inl (0, 12, .inl pf2)), (16, .inr (4, [.int 4, .int 18, .ref 17, .int az2])), (17, .inl (0, 72, .inl af2)), (18, .inr (4, [.int 2, .int 8, .ref 19, .int lz2])), (19, .inl (0, 16, .inl lf2)), (20, .inr (4, [.int 3, .int 4, .ref 21, .int oz2])), (21, .inl (0, 12, .inl of2))] rfl ?_
  refine Go.run qX5_takeAll IX5_ok 15 4 (41, [(0, .ref 0), (1, .ref 11)], [.ref 16, .ref 5], [(0, .inr (5, [.ref 1, .ref 3, .ref 5, .ref 7, .ref 9])), (1, .inr (2, [.int 5, .int 10, .ref 2, .int r1.1, .int r3.1, .int r3.2])), (2, .inl (0, 50, .inl r1.2)), (3, .inr (4, [.int 2, .int 6, .ref 4, .int r5.1])), (4, .inl (0, 12, .inl r5.2)), (5, .inr (4, [.int 4, .int 18, .ref 6, .int az])), (6, .inl (0, 72, .inl af)), (7, .inr (4, [.int 2, .int 8, .ref 8, .int lz])), (8, .inl (0, 16, .inl lf)), (9, .inr (4, [.int 3, .int 4, .ref 10, .int oz])), (10, .inl (0, 12, .inl of)), (11, .inr (5, [.ref 12, .ref 14, .ref 16, .ref 18, .ref 20])), (12, .inr (2, [.int 5, .int 10, .ref 13, .int sz2, .int fo2, .int tu2])), (13, .inl (0, 50, .inl f2)), (14, .inr (4, [.int 2, .int 6, .ref 15, .int pz2])), (15, .inl (0, 12, .inl pf2)), (16, .inr (4, [.int 4, .int 18, .ref 17, .int az2])), (17, .inl (0, 72, .inl af2)), (18, .inr (4, [.int 2, .int 8, .ref 19, .int lz2])), (19, .inl (0, 16, .inl lf2)), (20, .inr (4, [.int 3, .int 4, .ref 21, .int oz2])), (21, .inl (0, 12, .inl of2))]) [] rfl trivial ?_
  obtain ⟨r7, h8, hF⟩ := gbind hF
  refine Tk_v qX5_takeAll 19 rfl (c_X4_takeRows__4 4 18 az 72 af 4 18 az2 72 af2 r7 h8) kX5_52_4 0 rfl rfl (gr [5, 6, 16, 17]) [5, 6, 16, 17] rfl rfl rfl rfl ⟨rfl, rfl, by decide, by decide⟩ [] rfl (Nat.le_of_ble_eq_true rfl) [] rfl [(0, .inr (5, [.ref 1, .ref 3, .ref 5, .ref 7, .ref 9])), (1, .inr (2, [.int 5, .int 10, .ref 2, .int r1.1, .int r3.1, .int r3.2])), (2, .inl (0, 50, .inl r1.2)), (3, .inr (4, [.int 2, .int 6, .ref 4, .int r5.1])), (4, .inl (0, 12, .inl r5.2)), (5, .inr (4, [.int 4, .int 18, .ref 6, .int r7.1])), (6, .inl (0, 72, .inl r7.2)), (7, .inr (4, [.int 2, .int 8, .ref 8, .int lz])), (8, .inl (0, 16, .inl lf)), (9, .inr (4, [.int 3, .int 4, .ref 10, .int oz])), (10, .inl (0, 12, .inl of)), (11, .inr (5, [.ref 12, .ref 14, .ref 16, .ref 18, .ref 20])), (12, .inr (2, [.int 5, .int 10, .ref 13, .int sz2, .int fo2, .int tu2])), (13, .inl (0, 50, .inl f2)), (14, .inr (4, [.int 2, .int 6, .ref 15, .int pz2])), (15, .inl (0, 12, .inl pf2)), (16, .inr (4, [.int 4, .int 18, .ref 17, .int az2])), (17, .inl (0, 72, .inl af2)), (18, .inr (4, [.int 2, .int 8, .ref 19, .int lz2])), (19, .inl (0, 16, .inl lf2)), (20, .inr (4, [.int 3, .int 4, .ref 21, .int oz2])), (21, .inl (0, 12, .inl of2))] rfl ?_
  refine Go.run qX5_takeAll IX5_ok 20 4 (52, [(0, .ref 0), (1, .ref 11)], [.ref 18, .ref 7], [(0, .inr (5, [.ref 1, .ref 3, .ref 5, .ref 7, .ref 9])), (1, .inr (2, [.int 5, .int 10, .ref 2, .int r1.1, .int r3.1, .int r3.2])), (2, .inl (0, 50, .inl r1.2)), (3, .inr (4, [.int 2, .int 6, .ref 4, .int r5.1])), (4, .inl (0, 12, .inl r5.2)), (5, .inr (4, [.int 4, .int 18, .ref 6, .int r7.1])), (6, .inl (0, 72, .inl r7.2)), (7, .inr (4, [.int 2, .int 8, .ref 8, .int lz])), (8, .inl (0, 16, .inl lf)), (9, .inr (4, [.int 3, .int 4, .ref 10, .int oz])), (10, .inl (0, 12, .inl of)), (11, .inr (5, [.ref 12, .ref 14, .ref 16, .ref 18, .ref 20])), (12, .inr (2, [.int 5, .int 10, .ref 13, .int sz2, .int fo2, .int tu2])), (13, .inl (0, 50, .inl f2)), (14, .inr (4, [.int 2, .int 6, .ref 15, .int pz2])), (15, .inl (0, 12, .inl pf2)), (16, .inr (4, [.int 4, .int 18, .ref 17, .int az2])), (17, .inl (0, 72, .inl af2)), (18, .inr (4, [.int 2, .int 8, .ref 19, .int lz2])), (19, .inl (0, 16, .inl lf2)), (20, .inr (4, [.int 3, .int 4, .ref 21, .int oz2])), (21, .inl (0, 12, .inl of2))]) [] rfl trivial ?_
  obtain ⟨r9, h10, hF⟩ := gbind hF
  refine Tk_v qX5_takeAll 24 rfl (c_X4_takeRows__4 2 8 lz 16 lf 2 8 lz2 16 lf2 r9 h10) kX5_52_4 0 rfl rfl (gr [7, 8, 18, 19]) [7, 8, 18, 19] rfl rfl rfl rfl ⟨rfl, rfl, by decide, by decide⟩ [] rfl (Nat.le_of_ble_eq_true rfl) [] rfl [(0, .inr (5, [.ref 1, .ref 3, .ref 5, .ref 7, .ref 9])), (1, .inr (2, [.int 5, .int 10, .ref 2, .int r1.1, .int r3.1, .int r3.2])), (2, .inl (0, 50, .inl r1.2)), (3, .inr (4, [.int 2, .int 6, .ref 4, .int r5.1])), (4, .inl (0, 12, .inl r5.2)), (5, .inr (4, [.int 4, .int 18, .ref 6, .int r7.1])), (6, .inl (0, 72, .inl r7.2)), (7, .inr (4, [.int 2, .int 8, .ref 8, .int r9.1])), (8, .inl (0, 16, .inl r9.2)), (9, .inr (4, [.int 3, .int 4, .ref 10, .int oz])), (10, .inl (0, 12, .inl of)), (11, .inr (5, [.ref 12, .ref 14, .ref 16, .ref 18, .ref 20])), (12, .inr (2, [.int 5, .int 10, .ref 13, .int sz2, .int fo2, .int tu2])), (13, .inl (0, 50, .inl f2)), (14, .inr (4, [.int 2, .int 6, .ref 15, .int pz2])), (15, .inl (0, 12, .inl pf2)), (16, .inr (4, [.int 4, .int 18, .ref 17, .int az2])), (17, .inl (0, 72, .inl af2)), (18, .inr (4, [.int 2, .int 8, .ref 19, .int lz2])), (19, .inl (0, 16, .inl lf2)), (20, .inr (4, [.int 3, .int 4, .ref 21, .int oz2])), (21, .inl (0, 12, .inl of2))] rfl ?_
  refine Go.run qX5_takeAll IX5_ok 25 4 (63, [(0, .ref 0), (1, .ref 11)], [.ref 20, .ref 9], [(0, .inr (5, [.ref 1, .ref 3, .ref 5, .ref 7, .ref 9])), (1, .inr (2, [.int 5, .int 10, .ref 2, .int r1.1, .int r3.1, .int r3.2])), (2, .inl (0, 50, .inl r1.2)), (3, .inr (4, [.int 2, .int 6, .ref 4, .int r5.1])), (4, .inl (0, 12, .inl r5.2)), (5, .inr (4, [.int 4, .int 18, .ref 6, .int r7.1])), (6, .inl (0, 72, .inl r7.2)), (7, .inr (4, [.int 2, .int 8, .ref 8, .int r9.1])), (8, .inl (0, 16, .inl r9.2)), (9, .inr (4, [.int 3, .int 4, .ref 10, .int oz])), (10, .inl (0, 12, .inl of)), (11, .inr (5, [.ref 12, .ref 14, .ref 16, .ref 18, .ref 20])), (12, .inr (2, [.int 5, .int 10, .ref 13, .int sz2, .int fo2, .int tu2])), (13, .inl (0, 50, .inl f2)), (14, .inr (4, [.int 2, .int 6, .ref 15, .int pz2])), (15, .inl (0, 12, .inl pf2)), (16, .inr (4, [.int 4, .int 18, .ref 17, .int az2])), (17, .inl (0, 72, .inl af2)), (18, .inr (4, [.int 2, .int 8, .ref 19, .int lz2])), (19, .inl (0, 16, .inl lf2)), (20, .inr (4, [.int 3, .int 4, .ref 21, .int oz2])), (21, .inl (0, 12, .inl of2))]) [] rfl trivial ?_
  obtain ⟨r11, h12, hF⟩ := gbind hF
  refine Tk_v qX5_takeAll 29 rfl (c_X4_takeRows__4 3 4 oz 12 of 3 4 oz2 12 of2 r11 h12) kX5_52_4 0 rfl rfl (gr [9, 10, 20, 21]) [9, 10, 20, 21] rfl rfl rfl rfl ⟨rfl, rfl, by decide, by decide⟩ [] rfl (Nat.le_of_ble_eq_true rfl) [] rfl [(0, .inr (5, [.ref 1, .ref 3, .ref 5, .ref 7, .ref 9])), (1, .inr (2, [.int 5, .int 10, .ref 2, .int r1.1, .int r3.1, .int r3.2])), (2, .inl (0, 50, .inl r1.2)), (3, .inr (4, [.int 2, .int 6, .ref 4, .int r5.1])), (4, .inl (0, 12, .inl r5.2)), (5, .inr (4, [.int 4, .int 18, .ref 6, .int r7.1])), (6, .inl (0, 72, .inl r7.2)), (7, .inr (4, [.int 2, .int 8, .ref 8, .int r9.1])), (8, .inl (0, 16, .inl r9.2)), (9, .inr (4, [.int 3, .int 4, .ref 10, .int r11.1])), (10, .inl (0, 12, .inl r11.2)), (11, .inr (5, [.ref 12, .ref 14, .ref 16, .ref 18, .ref 20])), (12, .inr (2, [.int 5, .int 10, .ref 13, .int sz2, .int fo2, .int tu2])), (13, .inl (0, 50, .inl f2)), (14, .inr (4, [.int 2, .int 6, .ref 15, .int pz2])), (15, .inl (0, 12, .inl pf2)), (16, .inr (4, [.int 4, .int 18, .ref 17, .int az2])), (17, .inl (0, 72, .inl af2)), (18, .inr (4, [.int 2, .int 8, .ref 19, .int lz2])), (19, .inl (0, 16, .inl lf2)), (20, .inr (4, [.int 3, .int 4, .ref 21, .int oz2])), (21, .inl (0, 12, .inl of2))] rfl ?_
  obtain rfl := Option.some.inj hF
  exact Tr_v qX5_takeAll 30 rfl rfl ⟨rfl, rfl⟩
def R_X0_note : Room := { frames := 0, cells := 0, slots := 0, locals := 0 }
noncomputable def FL_X0_note_2 (cz : Int32) (cm : Nat → Int32) (b : Int32) (kk27 : Int32 → Option (Int32 × (Nat → Int32))) : Nat → Int32 → Option (Int32 × (Nat → Int32))
  | 0, _ => none
  | fu + 1, l2_2 => if cz ≤ l2_2 then (kk27 l2_2) else (if gvp l2_2 80 then (if (cm l2_2.toNatClampNeg) = b then (some (cz, cm)) else (FL_X0_note_2 cz cm b kk27 fu (l2_2 + 1))) else none)
noncomputable def F_X0_note (cz : Int32) (cm : Nat → Int32) (b : Int32) : Option (Int32 × (Nat → Int32)) :=
  FL_X0_note_2 cz cm b (fun l2_2 => if 80 ≤ cz then (some (cz, cm)) else (if gvp cz 80 then (some ((cz + 1), (upd cm cz.toNatClampNeg b))) else none)) gN0 0
set_option maxRecDepth 100000 in
set_option maxHeartbeats 4000000 in
theorem t_X0_note_2 (cz : Int32) (cm : Nat → Int32) (b : Int32) (kk27 : Int32 → Option (Int32 × (Nat → Int32))) (rr : Int32 × (Nat → Int32))  (hk27 : ∀ (l2_2 : Int32), kk27 l2_2 = some rr → Go mX0_note R_X0_note (gRet mX0_note (fun r0 w0 => r0 = none ∧ w0 = [(0, .inr (0, [.ref 1, .int rr.1, .ref 2])), (1, .inl (0, 80, .inl rr.2))])) (27, [(0, .ref 0), (1, .int b), (2, .int l2_2)], [], [(0, .inr (0, [.ref 1, .int cz, .ref 2])), (1, .inl (0, 80, .inl cm))])) : ∀ (fu : Nat) (l2_2 : Int32), FL_X0_note_2 cz cm b kk27 fu l2_2 = some rr → Go mX0_note R_X0_note (gRet mX0_note (fun r0 w0 => r0 = none ∧ w0 = [(0, .inr (0, [.ref 1, .int rr.1, .ref 2])), (1, .inl (0, 80, .inl rr.2))])) (2, [(0, .ref 0), (1, .int b), (2, .int l2_2)], [], [(0, .inr (0, [.ref 1, .int cz, .ref 2])), (1, .inl (0, 80, .inl cm))]) := by
  intro fu
  induction fu with
  | zero =>
    intro l2_2 hF
    cases hF
  | succ fu ih =>
    intro l2_2 hF
    unfold FL_X0_note_2 at hF
    refine Go.run qX0_note IX0_ok 2 3 (7, [(0, .ref 0), (1, .int b), (2, .int l2_2)], [.int cz, .int l2_2], [(0, .inr (0, [.ref 1, .int cz, .ref 2])), (1, .inl (0, 80, .inl cm))]) [] rfl trivial ?_
    refine Tc_ge qX0_note 5 20 27 rfl rfl (fun hb1021 => ?_) (fun hb1021 => ?_)
    · replace hF := gpos hb1021 hF
      exact hk27 l2_2 hF
    · replace hF := gneg hb1021 hF
      obtain ⟨hc1022, hF⟩ := gif hF
      refine Go.run qX0_note IX0_ok 6 5 (17, [(0, .ref 0), (1, .int b), (2, .int l2_2)], [.int b, .int (cm l2_2.toNatClampNeg)], [(0, .inr (0, [.ref 1, .int cz, .ref 2])), (1, .inl (0, 80, .inl cm))]) [gvp l2_2 80] rfl ⟨hc1022, trivial⟩ ?_
      refine Tc_ne qX0_note 11 4 21 rfl rfl (fun hb1023 => ?_) (fun hb1023 => ?_)
      · replace hF := gneg hb1023 hF
        refine Go.run qX0_note IX0_ok 13 2 (2, [(2, .int (l2_2 + 1)), (0, .ref 0), (1, .int b)], [], [(0, .inr (0, [.ref 1, .int cz, .ref 2])), (1, .inl (0, 80, .inl cm))]) [] rfl trivial ?_
        refine Go.loc [1, 2, 0] rfl ?_
        exact ih (l2_2 + 1) hF
      · replace hF := gpos hb1023 hF
        obtain rfl := Option.some.inj hF
        exact Tr_v qX0_note 12 rfl rfl ⟨rfl, rfl⟩
set_option maxRecDepth 100000 in
set_option maxHeartbeats 4000000 in
theorem c_X0_note (cz : Int32) (cm : Nat → Int32) (b : Int32) (rr : Int32 × (Nat → Int32)) (hF : F_X0_note cz cm b = some rr) : Cd mX0_note R_X0_note [.ref 0, .int b] [(0, .inr (0, [.ref 1, .int cz, .ref 2])), (1, .inl (0, 80, .inl cm))] (none) [(0, .inr (0, [.ref 1, .int rr.1, .ref 2])), (1, .inl (0, 80, .inl rr.2))] := by
  unfold F_X0_note at hF
  refine Ct.of rfl (Nat.le_of_ble_eq_true rfl) ?_
  refine Go.run qX0_note IX0_ok 0 2 (2, [(2, .int 0), (0, .ref 0), (1, .int b)], [], [(0, .inr (0, [.ref 1, .int cz, .ref 2])), (1, .inl (0, 80, .inl cm))]) [] rfl trivial ?_
  refine Go.loc [1, 2, 0] rfl ?_
  refine t_X0_note_2 cz cm b _ rr (fun l2_2 hF => ?_) gN0 0 hF
  refine Go.run qX0_note IX0_ok 15 5 (36, [(0, .ref 0), (1, .int b), (2, .int l2_2)], [.int 80, .int cz], [(0, .inr (0, [.ref 1, .int cz, .ref 2])), (1, .inl (0, 80, .inl cm))]) [] rfl trivial ?_
  refine Tc_ge qX0_note 20 23 59 rfl rfl (fun hb1 => ?_) (fun hb1 => ?_)
  · replace hF := gpos hb1 hF
    obtain rfl := Option.some.inj hF
    exact Tr_v qX0_note 33 rfl rfl ⟨rfl, rfl⟩
  · replace hF := gneg hb1 hF
    obtain ⟨hc2, hF⟩ := gif hF
    refine Go.run qX0_note IX0_ok 21 12 (59, [(0, .ref 0), (1, .int b), (2, .int l2_2)], [], [(0, .inr (0, [.ref 1, .int (cz + 1), .ref 2])), (1, .inl (0, 80, .inl (upd cm cz.toNatClampNeg b)))]) [gvp cz 80] rfl ⟨hc2, trivial⟩ ?_
    obtain rfl := Option.some.inj hF
    exact Tr_v qX0_note 33 rfl rfl ⟨rfl, rfl⟩
def R_X0_goOnFrom : Room := { frames := 0, cells := 0, slots := 0, locals := 0 }
noncomputable def FL_X0_goOnFrom_2 (cz : Int32) (cm : Nat → Int32) (b : Int32) (kk63 : Int32 → (Nat → Int32) → Option ((Nat → Int32))) : Nat → Int32 → (Nat → Int32) → Option ((Nat → Int32))
  | 0, _, _ => none
  | fu + 1, l2_2, a2_2 => if cz ≤ l2_2 then (kk63 l2_2 a2_2) else (if gvp l2_2 80 then (if 1024 ≤ (b ||| (cm l2_2.toNatClampNeg)) then (FL_X0_goOnFrom_2 cz cm b kk63 fu (l2_2 + 1) a2_2) else (if gvp (b ||| (cm l2_2.toNatClampNeg)) 1024 then (if gvp b 1024 then (if (a2_2 (b ||| (cm l2_2.toNatClampNeg)).toNatClampNeg) ≤ ((a2_2 b.toNatClampNeg) + 1) then (FL_X0_goOnFrom_2 cz cm b kk63 fu (l2_2 + 1) a2_2) else (if gvp b 1024 then (if gvp (b ||| (cm l2_2.toNatClampNeg)) 1024 then (FL_X0_goOnFrom_2 cz cm b kk63 fu (l2_2 + 1) (upd a2_2 (b ||| (cm l2_2.toNatClampNeg)).toNatClampNeg ((a2_2 b.toNatClampNeg) + 1))) else none) else none)) else none) else none)) else none)
noncomputable def F_X0_goOnFrom (cz : Int32) (cm : Nat → Int32) (cl : Nat → Int32) (b : Int32) : Option ((Nat → Int32)) :=
  FL_X0_goOnFrom_2 cz cm b (fun l2_2 a2_2 => some a2_2) gN0 0 cl
set_option maxRecDepth 100000 in
set_option maxHeartbeats 4000000 in
theorem t_X0_goOnFrom_2 (cz : Int32) (cm : Nat → Int32) (cl : Nat → Int32) (b : Int32) (kk63 : Int32 → (Nat → Int32) → Option ((Nat → Int32))) (rr : (Nat → Int32))  (hk63 : ∀ (l2_2 : Int32) (a2_2 : Nat → Int32), kk63 l2_2 a2_2 = some rr → Go mX0_goOnFrom R_X0_goOnFrom (gRet mX0_goOnFrom (fun r0 w0 => r0 = none ∧ w0 = [(0, .inr (0, [.ref 1, .int cz, .ref 2])), (1, .inl (0, 80, .inl cm)), (2, .inl (0, 1024, .inl rr))])) (63, [(0, .ref 0), (1, .int b), (2, .int l2_2)], [], [(0, .inr (0, [.ref 1, .int cz, .ref 2])), (1, .inl (0, 80, .inl cm)), (2, .inl (0, 1024, .inl a2_2))])) : ∀ (fu : Nat) (l2_2 : Int32) (a2_2 : Nat → Int32), FL_X0_goOnFrom_2 cz cm b kk63 fu l2_2 a2_2 = some rr → Go mX0_goOnFrom R_X0_goOnFrom (gRet mX0_goOnFrom (fun r0 w0 => r0 = none ∧ w0 = [(0, .inr (0, [.ref 1, .int cz, .ref 2])), (1, .inl (0, 80, .inl cm)), (2, .inl (0, 1024, .inl rr))])) (2, [(0, .ref 0), (1, .int b), (2, .int l2_2)], [], [(0, .inr (0, [.ref 1, .int cz, .ref 2])), (1, .inl (0, 80, .inl cm)), (2, .inl (0, 1024, .inl a2_2))]) := by
  intro fu
  induction fu with
  | zero =>
    intro l2_2 a2_2 hF
    cases hF
  | succ fu ih =>
    intro l2_2 a2_2 hF
    unfold FL_X0_goOnFrom_2 at hF
    refine Go.run qX0_goOnFrom IX0_ok 2 3 (7, [(0, .ref 0), (1, .int b), (2, .int l2_2)], [.int cz, .int l2_2], [(0, .inr (0, [.ref 1, .int cz, .ref 2])), (1, .inl (0, 80, .inl cm)), (2, .inl (0, 1024, .inl a2_2))]) [] rfl trivial ?_
    refine Tc_ge qX0_goOnFrom 5 56 63 rfl rfl (fun hb1021 => ?_) (fun hb1021 => ?_)
    · replace hF := gpos hb1021 hF
      exact hk63 l2_2 a2_2 hF
    · replace hF := gneg hb1021 hF
      obtain ⟨hc1022, hF⟩ := gif hF
      refine Go.run qX0_goOnFrom IX0_ok 6 9 (23, [(3, .int (b ||| (cm l2_2.toNatClampNeg))), (0, .ref 0), (1, .int b), (2, .int l2_2)], [.int 1024, .int (b ||| (cm l2_2.toNatClampNeg))], [(0, .inr (0, [.ref 1, .int cz, .ref 2])), (1, .inl (0, 80, .inl cm)), (2, .inl (0, 1024, .inl a2_2))]) [gvp l2_2 80] rfl ⟨hc1022, trivial⟩ ?_
      refine Tc_ge qX0_goOnFrom 15 34 57 rfl rfl (fun hb1023 => ?_) (fun hb1023 => ?_)
      · replace hF := gpos hb1023 hF
        refine Go.run qX0_goOnFrom IX0_ok 37 2 (2, [(2, .int (l2_2 + 1)), (3, .int (b ||| (cm l2_2.toNatClampNeg))), (0, .ref 0), (1, .int b)], [], [(0, .inr (0, [.ref 1, .int cz, .ref 2])), (1, .inl (0, 80, .inl cm)), (2, .inl (0, 1024, .inl a2_2))]) [] rfl trivial ?_
        refine Go.loc [2, 3, 0] rfl ?_
        exact ih (l2_2 + 1) a2_2 hF
      · replace hF := gneg hb1023 hF
        obtain ⟨hc1024, hF⟩ := gif hF
        obtain ⟨hc1025, hF⟩ := gif hF
        refine Go.run qX0_goOnFrom IX0_ok 16 10 (40, [(3, .int (b ||| (cm l2_2.toNatClampNeg))), (0, .ref 0), (1, .int b), (2, .int l2_2)], [.int ((a2_2 b.toNatClampNeg) + 1), .int (a2_2 (b ||| (cm l2_2.toNatClampNeg)).toNatClampNeg)], [(0, .inr (0, [.ref 1, .int cz, .ref 2])), (1, .inl (0, 80, .inl cm)), (2, .inl (0, 1024, .inl a2_2))]) [gvp (b ||| (cm l2_2.toNatClampNeg)) 1024, gvp b 1024] rfl ⟨hc1024, hc1025, trivial⟩ ?_
        refine Tc_le qX0_goOnFrom 26 17 57 rfl rfl (fun hb1026 => ?_) (fun hb1026 => ?_)
        · replace hF := gpos hb1026 hF
          refine Go.run qX0_goOnFrom IX0_ok 37 2 (2, [(2, .int (l2_2 + 1)), (3, .int (b ||| (cm l2_2.toNatClampNeg))), (0, .ref 0), (1, .int b)], [], [(0, .inr (0, [.ref 1, .int cz, .ref 2])), (1, .inl (0, 80, .inl cm)), (2, .inl (0, 1024, .inl a2_2))]) [] rfl trivial ?_
          refine Go.loc [2, 3, 0] rfl ?_
          exact ih (l2_2 + 1) a2_2 hF
        · replace hF := gneg hb1026 hF
          obtain ⟨hc1027, hF⟩ := gif hF
          obtain ⟨hc1028, hF⟩ := gif hF
          refine Go.run qX0_goOnFrom IX0_ok 27 12 (2, [(2, .int (l2_2 + 1)), (3, .int (b ||| (cm l2_2.toNatClampNeg))), (0, .ref 0), (1, .int b)], [], [(0, .inr (0, [.ref 1, .int cz, .ref 2])), (1, .inl (0, 80, .inl cm)), (2, .inl (0, 1024, .inl (upd a2_2 (b ||| (cm l2_2.toNatClampNeg)).toNatClampNeg ((a2_2 b.toNatClampNeg) + 1))))]) [gvp b 1024, gvp (b ||| (cm l2_2.toNatClampNeg)) 1024] rfl ⟨hc1027, hc1028, trivial⟩ ?_
          refine Go.loc [2, 3, 0] rfl ?_
          exact ih (l2_2 + 1) (upd a2_2 (b ||| (cm l2_2.toNatClampNeg)).toNatClampNeg ((a2_2 b.toNatClampNeg) + 1)) hF
set_option maxRecDepth 100000 in
set_option maxHeartbeats 4000000 in
theorem c_X0_goOnFrom (cz : Int32) (cm : Nat → Int32) (cl : Nat → Int32) (b : Int32) (rr : (Nat → Int32)) (hF : F_X0_goOnFrom cz cm cl b = some rr) : Cd mX0_goOnFrom R_X0_goOnFrom [.ref 0, .int b] [(0, .inr (0, [.ref 1, .int cz, .ref 2])), (1, .inl (0, 80, .inl cm)), (2, .inl (0, 1024, .inl cl))] (none) [(0, .inr (0, [.ref 1, .int cz, .ref 2])), (1, .inl (0, 80, .inl cm)), (2, .inl (0, 1024, .inl rr))] := by
  unfold F_X0_goOnFrom at hF
  refine Ct.of rfl (Nat.le_of_ble_eq_true rfl) ?_
  refine Go.run qX0_goOnFrom IX0_ok 0 2 (2, [(2, .int 0), (0, .ref 0), (1, .int b)], [], [(0, .inr (0, [.ref 1, .int cz, .ref 2])), (1, .inl (0, 80, .inl cm)), (2, .inl (0, 1024, .inl cl))]) [] rfl trivial ?_
  refine Go.loc [1, 2, 0] rfl ?_
  refine t_X0_goOnFrom_2 cz cm cl b _ rr (fun l2_2 a2_2 hF => ?_) gN0 0 cl hF
  obtain rfl := Option.some.inj hF
  exact Tr_v qX0_goOnFrom 39 rfl rfl ⟨rfl, rfl⟩
def R_X0_collect : Room := { frames := 3, cells := 0, slots := 0, locals := 82 }
noncomputable def FL_X0_collect_11 (sz : Int32) (fo : Int32) (tu : Int32) (f : Nat → Int32) (fx : Nat → Int32) (fy : Nat → Int32) (b : Int32) (px : Int32) (py : Int32) (kk91 : Int32 → Int32 → Int32 → (Nat → Int32) → Option (Int32 × Int32 × (Nat → Int32))) : Nat → Int32 → Int32 → Int32 → (Nat → Int32) → Option (Int32 × Int32 × (Nat → Int32))
  | 0, _, _, _, _ => none
  | fu + 1, l6_11, l7_11, w0_1_11, a1_11 => if 80 ≤ l7_11 then (kk91 l6_11 l7_11 w0_1_11 a1_11) else ((F_X1_dx fx l7_11).bind fun r1112 => (F_X1_dy fy l7_11).bind fun r1114 => (F_X2_metBy sz tu f px py r1112 r1114 0).bind fun r1116 => (F_X2_narrowed sz fo f r1116 r1112 r1114 0).bind fun r1118 => if r1118 = 0 then (FL_X0_collect_11 sz fo tu f fx fy b px py kk91 fu l6_11 (l7_11 + 1) w0_1_11 a1_11) else (if (r1118 &&& (b ^^^ (-1))) = 0 then ((F_X0_note w0_1_11 a1_11 r1118).bind fun r1122 => FL_X0_collect_11 sz fo tu f fx fy b px py kk91 fu (l6_11 ||| r1118) (l7_11 + 1) r1122.1 r1122.2) else (FL_X0_collect_11 sz fo tu f fx fy b px py kk91 fu l6_11 (l7_11 + 1) w0_1_11 a1_11)))
noncomputable def F_X0_collect (cm : Nat → Int32) (sz : Int32) (fo : Int32) (tu : Int32) (f : Nat → Int32) (fx : Nat → Int32) (fy : Nat → Int32) (b : Int32) (px : Int32) (py : Int32) : Option (Int32 × Int32 × (Nat → Int32)) :=
  FL_X0_collect_11 sz fo tu f fx fy b px py (fun l6_11 l7_11 w0_1_11 a1_11 => if l6_11 = b then (some (1, w0_1_11, a1_11)) else (some (0, w0_1_11, a1_11))) gN0 0 0 0 cm
set_option maxRecDepth 100000 in
set_option maxHeartbeats 4000000 in
theorem t_X0_collect_11 (cz : Int32) (cm : Nat → Int32) (sz : Int32) (fo : Int32) (tu : Int32) (f : Nat → Int32) (fx : Nat → Int32) (fy : Nat → Int32) (b : Int32) (px : Int32) (py : Int32) (kk91 : Int32 → Int32 → Int32 → (Nat → Int32) → Option (Int32 × Int32 × (Nat → Int32))) (rr : Int32 × Int32 × (Nat → Int32))  (hk91 : ∀ (l6_11 : Int32) (l7_11 : Int32) (w0_1_11 : Int32) (a1_11 : Nat → Int32), kk91 l6_11 l7_11 w0_1_11 a1_11 = some rr → Go mX0_collect R_X0_collect (gRet mX0_collect (fun r0 w0 => r0 = some (.int rr.1) ∧ w0 = [(0, .inr (0, [.ref 1, .int rr.2.1, .ref 2])), (1, .inl (0, 80, .inl rr.2.2)), (3, .inr (2, [.int 5, .int 10, .ref 4, .int sz, .int fo, .int tu])), (4, .inl (0, 50, .inl f)), (5, .inr (1, [.ref 6, .ref 7])), (6, .inl (0, 80, .inl fx)), (7, .inl (0, 80, .inl fy))])) (91, [(0, .ref 0), (1, .ref 3), (2, .ref 5), (3, .int b), (4, .int px), (5, .int py), (6, .int l6_11), (7, .int l7_11)], [], [(0, .inr (0, [.ref 1, .int w0_1_11, .ref 2])), (1, .inl (0, 80, .inl a1_11)), (3, .inr (2, [.int 5, .int 10, .ref 4, .int sz, .int fo, .int tu])), (4, .inl (0, 50, .inl f)), (5, .inr (1, [.ref 6, .ref 7])), (6, .inl (0, 80, .inl fx)), (7, .inl (0, 80, .inl fy))])) : ∀ (fu : Nat) (l6_11 : Int32) (l7_11 : Int32) (w0_1_11 : Int32) (a1_11 : Nat → Int32), FL_X0_collect_11 sz fo tu f fx fy b px py kk91 fu l6_11 l7_11 w0_1_11 a1_11 = some rr → Go mX0_collect R_X0_collect (gRet mX0_collect (fun r0 w0 => r0 = some (.int rr.1) ∧ w0 = [(0, .inr (0, [.ref 1, .int rr.2.1, .ref 2])), (1, .inl (0, 80, .inl rr.2.2)), (3, .inr (2, [.int 5, .int 10, .ref 4, .int sz, .int fo, .int tu])), (4, .inl (0, 50, .inl f)), (5, .inr (1, [.ref 6, .ref 7])), (6, .inl (0, 80, .inl fx)), (7, .inl (0, 80, .inl fy))])) (11, [(0, .ref 0), (1, .ref 3), (2, .ref 5), (3, .int b), (4, .int px), (5, .int py), (6, .int l6_11), (7, .int l7_11)], [], [(0, .inr (0, [.ref 1, .int w0_1_11, .ref 2])), (1, .inl (0, 80, .inl a1_11)), (3, .inr (2, [.int 5, .int 10, .ref 4, .int sz, .int fo, .int tu])), (4, .inl (0, 50, .inl f)), (5, .inr (1, [.ref 6, .ref 7])), (6, .inl (0, 80, .inl fx)), (7, .inl (0, 80, .inl fy))]) := by
  intro fu
  induction fu with
  | zero =>
    intro l6_11 l7_11 w0_1_11 a1_11 hF
    cases hF
  | succ fu ih =>
    intro l6_11 l7_11 w0_1_11 a1_11 hF
    unfold FL_X0_collect_11 at hF
    refine Go.run qX0_collect IX0_ok 7 2 (15, [(0, .ref 0), (1, .ref 3), (2, .ref 5), (3, .int b), (4, .int px), (5, .int py), (6, .int l6_11), (7, .int l7_11)], [.int 80, .int l7_11], [(0, .inr (0, [.ref 1, .int w0_1_11, .ref 2])), (1, .inl (0, 80, .inl a1_11)), (3, .inr (2, [.int 5, .int 10, .ref 4, .int sz, .int fo, .int tu])), (4, .inl (0, 50, .inl f)), (5, .inr (1, [.ref 6, .ref 7])), (6, .inl (0, 80, .inl fx)), (7, .inl (0, 80, .inl fy))]) [] rfl trivial ?_
    refine Tc_ge qX0_collect 9 76 91 rfl rfl (fun hb1111 => ?_) (fun hb1111 => ?_)
    · replace hF := gpos hb1111 hF
      exact hk91 l6_11 l7_11 w0_1_11 a1_11 hF
    · replace hF := gneg hb1111 hF
      refine Go.run qX0_collect IX0_ok 10 2 (21, [(0, .ref 0), (1, .ref 3), (2, .ref 5), (3, .int b), (4, .int px), (5, .int py), (6, .int l6_11), (7, .int l7_11)], [.int l7_11, .ref 5], [(0, .inr (0, [.ref 1, .int w0_1_11, .ref 2])), (1, .inl (0, 80, .inl a1_11)), (3, .inr (2, [.int 5, .int 10, .ref 4, .int sz, .int fo, .int tu])), (4, .inl (0, 50, .inl f)), (5, .inr (1, [.ref 6, .ref 7])), (6, .inl (0, 80, .inl fx)), (7, .inl (0, 80, .inl fy))]) [] rfl trivial ?_
      obtain ⟨r1112, h1113, hF⟩ := gbind hF
      refine Tk_v qX0_collect 12 rfl (c_X1_dx fx l7_11 r1112 h1113) kX0_32_1 0 rfl rfl (gr [5, 6, 7]) [4, 5] rfl rfl rfl rfl ⟨rfl, rfl, by decide, by decide⟩ [] rfl (Nat.le_of_ble_eq_true rfl) [.int r1112] rfl [(0, .inr (0, [.ref 1, .int w0_1_11, .ref 2])), (1, .inl (0, 80, .inl a1_11)), (3, .inr (2, [.int 5, .int 10, .ref 4, .int sz, .int fo, .int tu])), (4, .inl (0, 50, .inl f)), (5, .inr (1, [.ref 6, .ref 7])), (6, .inl (0, 80, .inl fx)), (7, .inl (0, 80, .inl fy))] rfl ?_
      refine Go.run qX0_collect IX0_ok 13 3 (29, [(8, .int r1112), (0, .ref 0), (1, .ref 3), (2, .ref 5), (3, .int b), (4, .int px), (5, .int py), (6, .int l6_11), (7, .int l7_11)], [.int l7_11, .ref 5], [(0, .inr (0, [.ref 1, .int w0_1_11, .ref 2])), (1, .inl (0, 80, .inl a1_11)), (3, .inr (2, [.int 5, .int 10, .ref 4, .int sz, .int fo, .int tu])), (4, .inl (0, 50, .inl f)), (5, .inr (1, [.ref 6, .ref 7])), (6, .inl (0, 80, .inl fx)), (7, .inl (0, 80, .inl fy))]) [] rfl trivial ?_
      obtain ⟨r1114, h1115, hF⟩ := gbind hF
      refine Tk_v qX0_collect 16 rfl (c_X1_dy fy l7_11 r1114 h1115) kX0_36_1 0 rfl rfl (gr [5, 6, 7]) [4, 6] rfl rfl rfl rfl ⟨rfl, rfl, by decide, by decide⟩ [] rfl (Nat.le_of_ble_eq_true rfl) [.int r1114] rfl [(0, .inr (0, [.ref 1, .int w0_1_11, .ref 2])), (1, .inl (0, 80, .inl a1_11)), (3, .inr (2, [.int 5, .int 10, .ref 4, .int sz, .int fo, .int tu])), (4, .inl (0, 50, .inl f)), (5, .inr (1, [.ref 6, .ref 7])), (6, .inl (0, 80, .inl fx)), (7, .inl (0, 80, .inl fy))] rfl ?_
      refine Go.run qX0_collect IX0_ok 17 8 (45, [(9, .int r1114), (8, .int r1112), (0, .ref 0), (1, .ref 3), (2, .ref 5), (3, .int b), (4, .int px), (5, .int py), (6, .int l6_11), (7, .int l7_11)], [.int 0, .int r1114, .int r1112, .int py, .int px, .ref 3, .ref 3], [(0, .inr (0, [.ref 1, .int w0_1_11, .ref 2])), (1, .inl (0, 80, .inl a1_11)), (3, .inr (2, [.int 5, .int 10, .ref 4, .int sz, .int fo, .int tu])), (4, .inl (0, 50, .inl f)), (5, .inr (1, [.ref 6, .ref 7])), (6, .inl (0, 80, .inl fx)), (7, .inl (0, 80, .inl fy))]) [] rfl trivial ?_
      obtain ⟨r1116, h1117, hF⟩ := gbind hF
      refine Tk_v qX0_collect 25 rfl (c_X2_metBy sz fo tu f px py r1112 r1114 0 r1116 h1117) kX0_39_2 0 rfl rfl (gr [3, 4]) [2, 3] rfl rfl rfl rfl ⟨rfl, rfl, by decide, by decide⟩ [.ref 3] rfl (Nat.le_of_ble_eq_true rfl) [.int r1116, .ref 3] rfl [(0, .inr (0, [.ref 1, .int w0_1_11, .ref 2])), (1, .inl (0, 80, .inl a1_11)), (3, .inr (2, [.int 5, .int 10, .ref 4, .int sz, .int fo, .int tu])), (4, .inl (0, 50, .inl f)), (5, .inr (1, [.ref 6, .ref 7])), (6, .inl (0, 80, .inl fx)), (7, .inl (0, 80, .inl fy))] rfl ?_
      refine Go.run qX0_collect IX0_ok 26 3 (53, [(9, .int r1114), (8, .int r1112), (0, .ref 0), (1, .ref 3), (2, .ref 5), (3, .int b), (4, .int px), (5, .int py), (6, .int l6_11), (7, .int l7_11)], [.int 0, .int r1114, .int r1112, .int r1116, .ref 3], [(0, .inr (0, [.ref 1, .int w0_1_11, .ref 2])), (1, .inl (0, 80, .inl a1_11)), (3, .inr (2, [.int 5, .int 10, .ref 4, .int sz, .int fo, .int tu])), (4, .inl (0, 50, .inl f)), (5, .inr (1, [.ref 6, .ref 7])), (6, .inl (0, 80, .inl fx)), (7, .inl (0, 80, .inl fy))]) [] rfl trivial ?_
      obtain ⟨r1118, h1119, hF⟩ := gbind hF
      refine Tk_v qX0_collect 29 rfl (c_X2_narrowed sz fo tu f r1116 r1112 r1114 0 r1118 h1119) kX0_45_2 0 rfl rfl (gr [3, 4]) [2, 3] rfl rfl rfl rfl ⟨rfl, rfl, by decide, by decide⟩ [] rfl (Nat.le_of_ble_eq_true rfl) [.int r1118] rfl [(0, .inr (0, [.ref 1, .int w0_1_11, .ref 2])), (1, .inl (0, 80, .inl a1_11)), (3, .inr (2, [.int 5, .int 10, .ref 4, .int sz, .int fo, .int tu])), (4, .inl (0, 50, .inl f)), (5, .inr (1, [.ref 6, .ref 7])), (6, .inl (0, 80, .inl fx)), (7, .inl (0, 80, .inl fy))] rfl ?_
      refine Go.run qX0_collect IX0_ok 30 2 (60, [(10, .int r1118), (9, .int r1114), (8, .int r1112), (0, .ref 0), (1, .ref 3), (2, .ref 5), (3, .int b), (4, .int px), (5, .int py), (6, .int l6_11), (7, .int l7_11)], [.int r1118], [(0, .inr (0, [.ref 1, .int w0_1_11, .ref 2])), (1, .inl (0, 80, .inl a1_11)), (3, .inr (2, [.int 5, .int 10, .ref 4, .int sz, .int fo, .int tu])), (4, .inl (0, 50, .inl f)), (5, .inr (1, [.ref 6, .ref 7])), (6, .inl (0, 80, .inl fx)), (7, .inl (0, 80, .inl fy))]) [] rfl trivial ?_
      refine Ti_eq qX0_collect 32 25 85 rfl rfl (fun hb1120 => ?_) (fun hb1120 => ?_)
      · replace hF := gpos hb1120 hF
        refine Go.run qX0_collect IX0_ok 46 2 (11, [(7, .int (l7_11 + 1)), (10, .int r1118), (9, .int r1114), (8, .int r1112), (0, .ref 0), (1, .ref 3), (2, .ref 5), (3, .int b), (4, .int px), (5, .int py), (6, .int l6_11)], [], [(0, .inr (0, [.ref 1, .int w0_1_11, .ref 2])), (1, .inl (0, 80, .inl a1_11)), (3, .inr (2, [.int 5, .int 10, .ref 4, .int sz, .int fo, .int tu])), (4, .inl (0, 50, .inl f)), (5, .inr (1, [.ref 6, .ref 7])), (6, .inl (0, 80, .inl fx)), (7, .inl (0, 80, .inl fy))]) [] rfl trivial ?_
        refine Go.loc [4, 5, 6, 7, 8, 9, 10, 0] rfl ?_
        exact ih l6_11 (l7_11 + 1) w0_1_11 a1_11 hF
      · replace hF := gneg hb1120 hF
        refine Go.run qX0_collect IX0_ok 33 5 (69, [(10, .int r1118), (9, .int r1114), (8, .int r1112), (0, .ref 0), (1, .ref 3), (2, .ref 5), (3, .int b), (4, .int px), (5, .int py), (6, .int l6_11), (7, .int l7_11)], [.int (r1118 &&& (b ^^^ (-1)))], [(0, .inr (0, [.ref 1, .int w0_1_11, .ref 2])), (1, .inl (0, 80, .inl a1_11)), (3, .inr (2, [.int 5, .int 10, .ref 4, .int sz, .int fo, .int tu])), (4, .inl (0, 50, .inl f)), (5, .inr (1, [.ref 6, .ref 7])), (6, .inl (0, 80, .inl fx)), (7, .inl (0, 80, .inl fy))]) [] rfl trivial ?_
        refine Ti_ne qX0_collect 38 16 85 rfl rfl (fun hb1121 => ?_) (fun hb1121 => ?_)
        · replace hF := gneg hb1121 hF
          refine Go.run qX0_collect IX0_ok 46 2 (11, [(7, .int (l7_11 + 1)), (10, .int r1118), (9, .int r1114), (8, .int r1112), (0, .ref 0), (1, .ref 3), (2, .ref 5), (3, .int b), (4, .int px), (5, .int py), (6, .int l6_11)], [], [(0, .inr (0, [.ref 1, .int w0_1_11, .ref 2])), (1, .inl (0, 80, .inl a1_11)), (3, .inr (2, [.int 5, .int 10, .ref 4, .int sz, .int fo, .int tu])), (4, .inl (0, 50, .inl f)), (5, .inr (1, [.ref 6, .ref 7])), (6, .inl (0, 80, .inl fx)), (7, .inl (0, 80, .inl fy))]) [] rfl trivial ?_
          refine Go.loc [4, 5, 6, 7, 8, 9, 10, 0] rfl ?_
          exact ih l6_11 (l7_11 + 1) w0_1_11 a1_11 hF
        · replace hF := gpos hb1121 hF
          refine Go.run qX0_collect IX0_ok 39 6 (82, [(6, .int (l6_11 ||| r1118)), (10, .int r1118), (9, .int r1114), (8, .int r1112), (0, .ref 0), (1, .ref 3), (2, .ref 5), (3, .int b), (4, .int px), (5, .int py), (7, .int l7_11)], [.int r1118, .ref 0], [(0, .inr (0, [.ref 1, .int w0_1_11, .ref 2])), (1, .inl (0, 80, .inl a1_11)), (3, .inr (2, [.int 5, .int 10, .ref 4, .int sz, .int fo, .int tu])), (4, .inl (0, 50, .inl f)), (5, .inr (1, [.ref 6, .ref 7])), (6, .inl (0, 80, .inl fx)), (7, .inl (0, 80, .inl fy))]) [] rfl trivial ?_
          obtain ⟨r1122, h1123, hF⟩ := gbind hF
          refine Tk_v0 qX0_collect 45 rfl (c_X0_note w0_1_11 a1_11 r1118 r1122 h1123) kX0_49_0 0 rfl rfl [0, 1] rfl rfl rfl rfl ⟨rfl, rfl, by decide, by decide⟩ [] rfl (Nat.le_of_ble_eq_true rfl) [] rfl [(0, .inr (0, [.ref 1, .int r1122.1, .ref 2])), (1, .inl (0, 80, .inl r1122.2)), (3, .inr (2, [.int 5, .int 10, .ref 4, .int sz, .int fo, .int tu])), (4, .inl (0, 50, .inl f)), (5, .inr (1, [.ref 6, .ref 7])), (6, .inl (0, 80, .inl fx)), (7, .inl (0, 80, .inl fy))] rfl ?_
          refine Go.run qX0_collect IX0_ok 46 2 (11, [(7, .int (l7_11 + 1)), (6, .int (l6_11 ||| r1118)), (10, .int r1118), (9, .int r1114), (8, .int r1112), (0, .ref 0), (1, .ref 3), (2, .ref 5), (3, .int b), (4, .int px), (5, .int py)], [], [(0, .inr (0, [.ref 1, .int r1122.1, .ref 2])), (1, .inl (0, 80, .inl r1122.2)), (3, .inr (2, [.int 5, .int 10, .ref 4, .int sz, .int fo, .int tu])), (4, .inl (0, 50, .inl f)), (5, .inr (1, [.ref 6, .ref 7])), (6, .inl (0, 80, .inl fx)), (7, .inl (0, 80, .inl fy))]) [] rfl trivial ?_
          refine Go.loc [5, 6, 7, 8, 9, 10, 1, 0] rfl ?_
          exact ih (l6_11 ||| r1118) (l7_11 + 1) r1122.1 r1122.2 hF
set_option maxRecDepth 100000 in
set_option maxHeartbeats 4000000 in
theorem c_X0_collect (cz : Int32) (cm : Nat → Int32) (sz : Int32) (fo : Int32) (tu : Int32) (f : Nat → Int32) (fx : Nat → Int32) (fy : Nat → Int32) (b : Int32) (px : Int32) (py : Int32) (rr : Int32 × Int32 × (Nat → Int32)) (hF : F_X0_collect cm sz fo tu f fx fy b px py = some rr) : Cd mX0_collect R_X0_collect [.ref 0, .ref 3, .ref 5, .int b, .int px, .int py] [(0, .inr (0, [.ref 1, .int cz, .ref 2])), (1, .inl (0, 80, .inl cm)), (3, .inr (2, [.int 5, .int 10, .ref 4, .int sz, .int fo, .int tu])), (4, .inl (0, 50, .inl f)), (5, .inr (1, [.ref 6, .ref 7])), (6, .inl (0, 80, .inl fx)), (7, .inl (0, 80, .inl fy))] (some (.int rr.1)) [(0, .inr (0, [.ref 1, .int rr.2.1, .ref 2])), (1, .inl (0, 80, .inl rr.2.2)), (3, .inr (2, [.int 5, .int 10, .ref 4, .int sz, .int fo, .int tu])), (4, .inl (0, 50, .inl f)), (5, .inr (1, [.ref 6, .ref 7])), (6, .inl (0, 80, .inl fx)), (7, .inl (0, 80, .inl fy))] := by
  unfold F_X0_collect at hF
  refine Ct.of rfl (Nat.le_of_ble_eq_true rfl) ?_
  refine Go.run qX0_collect IX0_ok 0 7 (11, [(7, .int 0), (6, .int 0), (0, .ref 0), (1, .ref 3), (2, .ref 5), (3, .int b), (4, .int px), (5, .int py)], [], [(0, .inr (0, [.ref 1, .int 0, .ref 2])), (1, .inl (0, 80, .inl cm)), (3, .inr (2, [.int 5, .int 10, .ref 4, .int sz, .int fo, .int tu])), (4, .inl (0, 50, .inl f)), (5, .inr (1, [.ref 6, .ref 7])), (6, .inl (0, 80, .inl fx)), (7, .inl (0, 80, .inl fy))]) [] rfl trivial ?_
  refine Go.loc [2, 3, 4, 5, 6, 7, 1, 0] rfl ?_
  refine t_X0_collect_11 cz cm sz fo tu f fx fy b px py _ rr (fun l6_11 l7_11 w0_1_11 a1_11 hF => ?_) gN0 0 0 0 cm hF
  refine Go.run qX0_collect IX0_ok 48 2 (94, [(0, .ref 0), (1, .ref 3), (2, .ref 5), (3, .int b), (4, .int px), (5, .int py), (6, .int l6_11), (7, .int l7_11)], [.int b, .int l6_11], [(0, .inr (0, [.ref 1, .int w0_1_11, .ref 2])), (1, .inl (0, 80, .inl a1_11)), (3, .inr (2, [.int 5, .int 10, .ref 4, .int sz, .int fo, .int tu])), (4, .inl (0, 50, .inl f)), (5, .inr (1, [.ref 6, .ref 7])), (6, .inl (0, 80, .inl fx)), (7, .inl (0, 80, .inl fy))]) [] rfl trivial ?_
  refine Tc_ne qX0_collect 50 7 101 rfl rfl (fun hb1 => ?_) (fun hb1 => ?_)
  · replace hF := gneg hb1 hF
    refine Go.run qX0_collect IX0_ok 53 1 (102, [(0, .ref 0), (1, .ref 3), (2, .ref 5), (3, .int b), (4, .int px), (5, .int py), (6, .int l6_11), (7, .int l7_11)], [.int 0], [(0, .inr (0, [.ref 1, .int w0_1_11, .ref 2])), (1, .inl (0, 80, .inl a1_11)), (3, .inr (2, [.int 5, .int 10, .ref 4, .int sz, .int fo, .int tu])), (4, .inl (0, 50, .inl f)), (5, .inr (1, [.ref 6, .ref 7])), (6, .inl (0, 80, .inl fx)), (7, .inl (0, 80, .inl fy))]) [] rfl trivial ?_
    obtain rfl := Option.some.inj hF
    exact Tr_z qX0_collect 54 rfl rfl (by decide) ⟨rfl, rfl⟩
  · replace hF := gpos hb1 hF
    refine Go.run qX0_collect IX0_ok 51 2 (102, [(0, .ref 0), (1, .ref 3), (2, .ref 5), (3, .int b), (4, .int px), (5, .int py), (6, .int l6_11), (7, .int l7_11)], [.int 1], [(0, .inr (0, [.ref 1, .int w0_1_11, .ref 2])), (1, .inl (0, 80, .inl a1_11)), (3, .inr (2, [.int 5, .int 10, .ref 4, .int sz, .int fo, .int tu])), (4, .inl (0, 50, .inl f)), (5, .inr (1, [.ref 6, .ref 7])), (6, .inl (0, 80, .inl fx)), (7, .inl (0, 80, .inl fy))]) [] rfl trivial ?_
    obtain rfl := Option.some.inj hF
    exact Tr_z qX0_collect 54 rfl rfl (by decide) ⟨rfl, rfl⟩
def R_X0_fewestArms : Room := { frames := 4, cells := 0, slots := 0, locals := 112 }
noncomputable def FL_X0_fewestArms_31 (b : Int32) (kk52 : Int32 → (Nat → Int32) → Option (Int32 × Int32 × (Nat → Int32) × (Nat → Int32))) : Nat → Int32 → (Nat → Int32) → Option (Int32 × Int32 × (Nat → Int32) × (Nat → Int32))
  | 0, _, _ => none
  | fu + 1, l6_31, a2_31 => if b < l6_31 then (kk52 l6_31 a2_31) else (if gvp l6_31 1024 then (FL_X0_fewestArms_31 b kk52 fu (l6_31 + 1) (upd a2_31 l6_31.toNatClampNeg 100)) else none)
noncomputable def FL_X0_fewestArms_62 (b : Int32) (f0_1_62 : Int32) (g1_62 : Nat → Int32) (kk92 : Int32 → (Nat → Int32) → Option (Int32 × Int32 × (Nat → Int32) × (Nat → Int32))) : Nat → Int32 → (Nat → Int32) → Option (Int32 × Int32 × (Nat → Int32) × (Nat → Int32))
  | 0, _, _ => none
  | fu + 1, l6_62, a2_62 => if b ≤ l6_62 then (kk92 l6_62 a2_62) else (if gvp l6_62 1024 then (if 100 ≤ (a2_62 l6_62.toNatClampNeg) then (FL_X0_fewestArms_62 b f0_1_62 g1_62 kk92 fu (l6_62 + 1) a2_62) else ((F_X0_goOnFrom f0_1_62 g1_62 a2_62 l6_62).bind fun r1624 => FL_X0_fewestArms_62 b f0_1_62 g1_62 kk92 fu (l6_62 + 1) r1624)) else none)
noncomputable def F_X0_fewestArms (cz : Int32) (cm : Nat → Int32) (cl : Nat → Int32) (sz : Int32) (fo : Int32) (tu : Int32) (f : Nat → Int32) (fx : Nat → Int32) (fy : Nat → Int32) (b : Int32) (px : Int32) (py : Int32) : Option (Int32 × Int32 × (Nat → Int32) × (Nat → Int32)) :=
  if b < 0 then (some ((-4), cz, cm, cl)) else (if 1024 ≤ b then (some ((-4), cz, cm, cl)) else ((F_X0_collect cm sz fo tu f fx fy b px py).bind fun r3 => if r3.1 = 0 then (some ((-4), r3.2.1, r3.2.2, cl)) else (FL_X0_fewestArms_31 b (fun l6_31 a2_31 => FL_X0_fewestArms_62 b r3.2.1 r3.2.2 (fun l6_62 a2_62 => if gvp b 1024 then (if 100 ≤ (a2_62 b.toNatClampNeg) then (some ((-4), r3.2.1, r3.2.2, a2_62)) else (if gvp b 1024 then (some ((a2_62 b.toNatClampNeg), r3.2.1, r3.2.2, a2_62)) else none)) else none) gN0 0 (upd a2_31 0 0)) gN0 0 cl)))
set_option maxRecDepth 100000 in
set_option maxHeartbeats 4000000 in
theorem t_X0_fewestArms_31 (cz : Int32) (cm : Nat → Int32) (cl : Nat → Int32) (sz : Int32) (fo : Int32) (tu : Int32) (f : Nat → Int32) (fx : Nat → Int32) (fy : Nat → Int32) (b : Int32) (px : Int32) (py : Int32) (f0_1_31 : Int32) (g1_31 : Nat → Int32) (kk52 : Int32 → (Nat → Int32) → Option (Int32 × Int32 × (Nat → Int32) × (Nat → Int32))) (rr : Int32 × Int32 × (Nat → Int32) × (Nat → Int32))  (hk52 : ∀ (l6_31 : Int32) (a2_31 : Nat → Int32), kk52 l6_31 a2_31 = some rr → Go mX0_fewestArms R_X0_fewestArms (gRet mX0_fewestArms (fun r0 w0 => r0 = some (.int rr.1) ∧ w0 = [(0, .inr (0, [.ref 1, .int rr.2.1, .ref 2])), (1, .inl (0, 80, .inl rr.2.2.1)), (2, .inl (0, 1024, .inl rr.2.2.2)), (3, .inr (2, [.int 5, .int 10, .ref 4, .int sz, .int fo, .int tu])), (4, .inl (0, 50, .inl f)), (5, .inr (1, [.ref 6, .ref 7])), (6, .inl (0, 80, .inl fx)), (7, .inl (0, 80, .inl fy))])) (52, [(0, .ref 0), (1, .ref 3), (2, .ref 5), (3, .int b), (4, .int px), (5, .int py), (6, .int l6_31)], [], [(0, .inr (0, [.ref 1, .int f0_1_31, .ref 2])), (1, .inl (0, 80, .inl g1_31)), (2, .inl (0, 1024, .inl a2_31)), (3, .inr (2, [.int 5, .int 10, .ref 4, .int sz, .int fo, .int tu])), (4, .inl (0, 50, .inl f)), (5, .inr (1, [.ref 6, .ref 7])), (6, .inl (0, 80, .inl fx)), (7, .inl (0, 80, .inl fy))])) : ∀ (fu : Nat) (l6_31 : Int32) (a2_31 : Nat → Int32), FL_X0_fewestArms_31 b kk52 fu l6_31 a2_31 = some rr → Go mX0_fewestArms R_X0_fewestArms (gRet mX0_fewestArms (fun r0 w0 => r0 = some (.int rr.1) ∧ w0 = [(0, .inr (0, [.ref 1, .int rr.2.1, .ref 2])), (1, .inl (0, 80, .inl rr.2.2.1)), (2, .inl (0, 1024, .inl rr.2.2.2)), (3, .inr (2, [.int 5, .int 10, .ref 4, .int sz, .int fo, .int tu])), (4, .inl (0, 50, .inl f)), (5, .inr (1, [.ref 6, .ref 7])), (6, .inl (0, 80, .inl fx)), (7, .inl (0, 80, .inl fy))])) (31, [(0, .ref 0), (1, .ref 3), (2, .ref 5), (3, .int b), (4, .int px), (5, .int py), (6, .int l6_31)], [], [(0, .inr (0, [.ref 1, .int f0_1_31, .ref 2])), (1, .inl (0, 80, .inl g1_31)), (2, .inl (0, 1024, .inl a2_31)), (3, .inr (2, [.int 5, .int 10, .ref 4, .int sz, .int fo, .int tu])), (4, .inl (0, 50, .inl f)), (5, .inr (1, [.ref 6, .ref 7])), (6, .inl (0, 80, .inl fx)), (7, .inl (0, 80, .inl fy))]) := by
  intro fu
  induction fu with
  | zero =>
    intro l6_31 a2_31 hF
    cases hF
  | succ fu ih =>
    intro l6_31 a2_31 hF
    unfold FL_X0_fewestArms_31 at hF
    refine Go.run qX0_fewestArms IX0_ok 17 2 (34, [(0, .ref 0), (1, .ref 3), (2, .ref 5), (3, .int b), (4, .int px), (5, .int py), (6, .int l6_31)], [.int b, .int l6_31], [(0, .inr (0, [.ref 1, .int f0_1_31, .ref 2])), (1, .inl (0, 80, .inl g1_31)), (2, .inl (0, 1024, .inl a2_31)), (3, .inr (2, [.int 5, .int 10, .ref 4, .int sz, .int fo, .int tu])), (4, .inl (0, 50, .inl f)), (5, .inr (1, [.ref 6, .ref 7])), (6, .inl (0, 80, .inl fx)), (7, .inl (0, 80, .inl fy))]) [] rfl trivial ?_
    refine Tc_gt qX0_fewestArms 19 18 52 rfl rfl (fun hb1311 => ?_) (fun hb1311 => ?_)
    · replace hF := gpos hb1311 hF
      exact hk52 l6_31 a2_31 hF
    · replace hF := gneg hb1311 hF
      obtain ⟨hc1312, hF⟩ := gif hF
      refine Go.run qX0_fewestArms IX0_ok 20 7 (31, [(6, .int (l6_31 + 1)), (0, .ref 0), (1, .ref 3), (2, .ref 5), (3, .int b), (4, .int px), (5, .int py)], [], [(0, .inr (0, [.ref 1, .int f0_1_31, .ref 2])), (1, .inl (0, 80, .inl g1_31)), (2, .inl (0, 1024, .inl (upd a2_31 l6_31.toNatClampNeg 100))), (3, .inr (2, [.int 5, .int 10, .ref 4, .int sz, .int fo, .int tu])), (4, .inl (0, 50, .inl f)), (5, .inr (1, [.ref 6, .ref 7])), (6, .inl (0, 80, .inl fx)), (7, .inl (0, 80, .inl fy))]) [gvp l6_31 1024] rfl ⟨hc1312, trivial⟩ ?_
      refine Go.loc [1, 2, 3, 4, 5, 6, 0] rfl ?_
      exact ih (l6_31 + 1) (upd a2_31 l6_31.toNatClampNeg 100) hF
set_option maxRecDepth 100000 in
set_option maxHeartbeats 4000000 in
theorem t_X0_fewestArms_62 (cz : Int32) (cm : Nat → Int32) (cl : Nat → Int32) (sz : Int32) (fo : Int32) (tu : Int32) (f : Nat → Int32) (fx : Nat → Int32) (fy : Nat → Int32) (b : Int32) (px : Int32) (py : Int32) (f0_1_62 : Int32) (g1_62 : Nat → Int32) (kk92 : Int32 → (Nat → Int32) → Option (Int32 × Int32 × (Nat → Int32) × (Nat → Int32))) (rr : Int32 × Int32 × (Nat → Int32) × (Nat → Int32))  (hk92 : ∀ (l6_62 : Int32) (a2_62 : Nat → Int32), kk92 l6_62 a2_62 = some rr → Go mX0_fewestArms R_X0_fewestArms (gRet mX0_fewestArms (fun r0 w0 => r0 = some (.int rr.1) ∧ w0 = [(0, .inr (0, [.ref 1, .int rr.2.1, .ref 2])), (1, .inl (0, 80, .inl rr.2.2.1)), (2, .inl (0, 1024, .inl rr.2.2.2)), (3, .inr (2, [.int 5, .int 10, .ref 4, .int sz, .int fo, .int tu])), (4, .inl (0, 50, .inl f)), (5, .inr (1, [.ref 6, .ref 7])), (6, .inl (0, 80, .inl fx)), (7, .inl (0, 80, .inl fy))])) (92, [(0, .ref 0), (1, .ref 3), (2, .ref 5), (3, .int b), (4, .int px), (5, .int py), (6, .int l6_62)], [], [(0, .inr (0, [.ref 1, .int f0_1_62, .ref 2])), (1, .inl (0, 80, .inl g1_62)), (2, .inl (0, 1024, .inl a2_62)), (3, .inr (2, [.int 5, .int 10, .ref 4, .int sz, .int fo, .int tu])), (4, .inl (0, 50, .inl f)), (5, .inr (1, [.ref 6, .ref 7])), (6, .inl (0, 80, .inl fx)), (7, .inl (0, 80, .inl fy))])) : ∀ (fu : Nat) (l6_62 : Int32) (a2_62 : Nat → Int32), FL_X0_fewestArms_62 b f0_1_62 g1_62 kk92 fu l6_62 a2_62 = some rr → Go mX0_fewestArms R_X0_fewestArms (gRet mX0_fewestArms (fun r0 w0 => r0 = some (.int rr.1) ∧ w0 = [(0, .inr (0, [.ref 1, .int rr.2.1, .ref 2])), (1, .inl (0, 80, .inl rr.2.2.1)), (2, .inl (0, 1024, .inl rr.2.2.2)), (3, .inr (2, [.int 5, .int 10, .ref 4, .int sz, .int fo, .int tu])), (4, .inl (0, 50, .inl f)), (5, .inr (1, [.ref 6, .ref 7])), (6, .inl (0, 80, .inl fx)), (7, .inl (0, 80, .inl fy))])) (62, [(0, .ref 0), (1, .ref 3), (2, .ref 5), (3, .int b), (4, .int px), (5, .int py), (6, .int l6_62)], [], [(0, .inr (0, [.ref 1, .int f0_1_62, .ref 2])), (1, .inl (0, 80, .inl g1_62)), (2, .inl (0, 1024, .inl a2_62)), (3, .inr (2, [.int 5, .int 10, .ref 4, .int sz, .int fo, .int tu])), (4, .inl (0, 50, .inl f)), (5, .inr (1, [.ref 6, .ref 7])), (6, .inl (0, 80, .inl fx)), (7, .inl (0, 80, .inl fy))]) := by
  intro fu
  induction fu with
  | zero =>
    intro l6_62 a2_62 hF
    cases hF
  | succ fu ih =>
    intro l6_62 a2_62 hF
    unfold FL_X0_fewestArms_62 at hF
    refine Go.run qX0_fewestArms IX0_ok 34 2 (65, [(0, .ref 0), (1, .ref 3), (2, .ref 5), (3, .int b), (4, .int px), (5, .int py), (6, .int l6_62)], [.int b, .int l6_62], [(0, .inr (0, [.ref 1, .int f0_1_62, .ref 2])), (1, .inl (0, 80, .inl g1_62)), (2, .inl (0, 1024, .inl a2_62)), (3, .inr (2, [.int 5, .int 10, .ref 4, .int sz, .int fo, .int tu])), (4, .inl (0, 50, .inl f)), (5, .inr (1, [.ref 6, .ref 7])), (6, .inl (0, 80, .inl fx)), (7, .inl (0, 80, .inl fy))]) [] rfl trivial ?_
    refine Tc_ge qX0_fewestArms 36 27 92 rfl rfl (fun hb1621 => ?_) (fun hb1621 => ?_)
    · replace hF := gpos hb1621 hF
      exact hk92 l6_62 a2_62 hF
    · replace hF := gneg hb1621 hF
      obtain ⟨hc1622, hF⟩ := gif hF
      refine Go.run qX0_fewestArms IX0_ok 37 5 (77, [(0, .ref 0), (1, .ref 3), (2, .ref 5), (3, .int b), (4, .int px), (5, .int py), (6, .int l6_62)], [.int 100, .int (a2_62 l6_62.toNatClampNeg)], [(0, .inr (0, [.ref 1, .int f0_1_62, .ref 2])), (1, .inl (0, 80, .inl g1_62)), (2, .inl (0, 1024, .inl a2_62)), (3, .inr (2, [.int 5, .int 10, .ref 4, .int sz, .int fo, .int tu])), (4, .inl (0, 50, .inl f)), (5, .inr (1, [.ref 6, .ref 7])), (6, .inl (0, 80, .inl fx)), (7, .inl (0, 80, .inl fy))]) [gvp l6_62 1024] rfl ⟨hc1622, trivial⟩ ?_
      refine Tc_ge qX0_fewestArms 42 9 86 rfl rfl (fun hb1623 => ?_) (fun hb1623 => ?_)
      · replace hF := gpos hb1623 hF
        refine Go.run qX0_fewestArms IX0_ok 46 2 (62, [(6, .int (l6_62 + 1)), (0, .ref 0), (1, .ref 3), (2, .ref 5), (3, .int b), (4, .int px), (5, .int py)], [], [(0, .inr (0, [.ref 1, .int f0_1_62, .ref 2])), (1, .inl (0, 80, .inl g1_62)), (2, .inl (0, 1024, .inl a2_62)), (3, .inr (2, [.int 5, .int 10, .ref 4, .int sz, .int fo, .int tu])), (4, .inl (0, 50, .inl f)), (5, .inr (1, [.ref 6, .ref 7])), (6, .inl (0, 80, .inl fx)), (7, .inl (0, 80, .inl fy))]) [] rfl trivial ?_
        refine Go.loc [1, 2, 3, 4, 5, 6, 0] rfl ?_
        exact ih (l6_62 + 1) a2_62 hF
      · replace hF := gneg hb1623 hF
        refine Go.run qX0_fewestArms IX0_ok 43 2 (83, [(0, .ref 0), (1, .ref 3), (2, .ref 5), (3, .int b), (4, .int px), (5, .int py), (6, .int l6_62)], [.int l6_62, .ref 0], [(0, .inr (0, [.ref 1, .int f0_1_62, .ref 2])), (1, .inl (0, 80, .inl g1_62)), (2, .inl (0, 1024, .inl a2_62)), (3, .inr (2, [.int 5, .int 10, .ref 4, .int sz, .int fo, .int tu])), (4, .inl (0, 50, .inl f)), (5, .inr (1, [.ref 6, .ref 7])), (6, .inl (0, 80, .inl fx)), (7, .inl (0, 80, .inl fy))]) [] rfl trivial ?_
        obtain ⟨r1624, h1625, hF⟩ := gbind hF
        refine Tk_v0 qX0_fewestArms 45 rfl (c_X0_goOnFrom f0_1_62 g1_62 a2_62 l6_62 r1624 h1625) kX0_24_0 0 rfl rfl [0, 1, 2] rfl rfl rfl rfl ⟨rfl, rfl, by decide, by decide⟩ [] rfl (Nat.le_of_ble_eq_true rfl) [] rfl [(0, .inr (0, [.ref 1, .int f0_1_62, .ref 2])), (1, .inl (0, 80, .inl g1_62)), (2, .inl (0, 1024, .inl r1624)), (3, .inr (2, [.int 5, .int 10, .ref 4, .int sz, .int fo, .int tu])), (4, .inl (0, 50, .inl f)), (5, .inr (1, [.ref 6, .ref 7])), (6, .inl (0, 80, .inl fx)), (7, .inl (0, 80, .inl fy))] rfl ?_
        refine Go.run qX0_fewestArms IX0_ok 46 2 (62, [(6, .int (l6_62 + 1)), (0, .ref 0), (1, .ref 3), (2, .ref 5), (3, .int b), (4, .int px), (5, .int py)], [], [(0, .inr (0, [.ref 1, .int f0_1_62, .ref 2])), (1, .inl (0, 80, .inl g1_62)), (2, .inl (0, 1024, .inl r1624)), (3, .inr (2, [.int 5, .int 10, .ref 4, .int sz, .int fo, .int tu])), (4, .inl (0, 50, .inl f)), (5, .inr (1, [.ref 6, .ref 7])), (6, .inl (0, 80, .inl fx)), (7, .inl (0, 80, .inl fy))]) [] rfl trivial ?_
        refine Go.loc [1, 2, 3, 4, 5, 6, 0] rfl ?_
        exact ih (l6_62 + 1) r1624 hF
set_option maxRecDepth 100000 in
set_option maxHeartbeats 4000000 in
theorem c_X0_fewestArms (cz : Int32) (cm : Nat → Int32) (cl : Nat → Int32) (sz : Int32) (fo : Int32) (tu : Int32) (f : Nat → Int32) (fx : Nat → Int32) (fy : Nat → Int32) (b : Int32) (px : Int32) (py : Int32) (rr : Int32 × Int32 × (Nat → Int32) × (Nat → Int32)) (hF : F_X0_fewestArms cz cm cl sz fo tu f fx fy b px py = some rr) : Cd mX0_fewestArms R_X0_fewestArms [.ref 0, .ref 3, .ref 5, .int b, .int px, .int py] [(0, .inr (0, [.ref 1, .int cz, .ref 2])), (1, .inl (0, 80, .inl cm)), (2, .inl (0, 1024, .inl cl)), (3, .inr (2, [.int 5, .int 10, .ref 4, .int sz, .int fo, .int tu])), (4, .inl (0, 50, .inl f)), (5, .inr (1, [.ref 6, .ref 7])), (6, .inl (0, 80, .inl fx)), (7, .inl (0, 80, .inl fy))] (some (.int rr.1)) [(0, .inr (0, [.ref 1, .int rr.2.1, .ref 2])), (1, .inl (0, 80, .inl rr.2.2.1)), (2, .inl (0, 1024, .inl rr.2.2.2)), (3, .inr (2, [.int 5, .int 10, .ref 4, .int sz, .int fo, .int tu])), (4, .inl (0, 50, .inl f)), (5, .inr (1, [.ref 6, .ref 7])), (6, .inl (0, 80, .inl fx)), (7, .inl (0, 80, .inl fy))] := by
  unfold F_X0_fewestArms at hF
  refine Ct.of rfl (Nat.le_of_ble_eq_true rfl) ?_
  refine Go.run qX0_fewestArms IX0_ok 0 1 (1, [(0, .ref 0), (1, .ref 3), (2, .ref 5), (3, .int b), (4, .int px), (5, .int py)], [.int b], [(0, .inr (0, [.ref 1, .int cz, .ref 2])), (1, .inl (0, 80, .inl cm)), (2, .inl (0, 1024, .inl cl)), (3, .inr (2, [.int 5, .int 10, .ref 4, .int sz, .int fo, .int tu])), (4, .inl (0, 50, .inl f)), (5, .inr (1, [.ref 6, .ref 7])), (6, .inl (0, 80, .inl fx)), (7, .inl (0, 80, .inl fy))]) [] rfl trivial ?_
  refine Ti_lt qX0_fewestArms 1 24 25 rfl rfl (fun hb1 => ?_) (fun hb1 => ?_)
  · replace hF := gpos hb1 hF
    refine Go.run qX0_fewestArms IX0_ok 13 1 (27, [(0, .ref 0), (1, .ref 3), (2, .ref 5), (3, .int b), (4, .int px), (5, .int py)], [.int (-4)], [(0, .inr (0, [.ref 1, .int cz, .ref 2])), (1, .inl (0, 80, .inl cm)), (2, .inl (0, 1024, .inl cl)), (3, .inr (2, [.int 5, .int 10, .ref 4, .int sz, .int fo, .int tu])), (4, .inl (0, 50, .inl f)), (5, .inr (1, [.ref 6, .ref 7])), (6, .inl (0, 80, .inl fx)), (7, .inl (0, 80, .inl fy))]) [] rfl trivial ?_
    obtain rfl := Option.some.inj hF
    exact Tr_i qX0_fewestArms 14 rfl rfl ⟨rfl, rfl⟩
  · replace hF := gneg hb1 hF
    refine Go.run qX0_fewestArms IX0_ok 2 2 (8, [(0, .ref 0), (1, .ref 3), (2, .ref 5), (3, .int b), (4, .int px), (5, .int py)], [.int 1024, .int b], [(0, .inr (0, [.ref 1, .int cz, .ref 2])), (1, .inl (0, 80, .inl cm)), (2, .inl (0, 1024, .inl cl)), (3, .inr (2, [.int 5, .int 10, .ref 4, .int sz, .int fo, .int tu])), (4, .inl (0, 50, .inl f)), (5, .inr (1, [.ref 6, .ref 7])), (6, .inl (0, 80, .inl fx)), (7, .inl (0, 80, .inl fy))]) [] rfl trivial ?_
    refine Tc_ge qX0_fewestArms 4 17 25 rfl rfl (fun hb2 => ?_) (fun hb2 => ?_)
    · replace hF := gpos hb2 hF
      refine Go.run qX0_fewestArms IX0_ok 13 1 (27, [(0, .ref 0), (1, .ref 3), (2, .ref 5), (3, .int b), (4, .int px), (5, .int py)], [.int (-4)], [(0, .inr (0, [.ref 1, .int cz, .ref 2])), (1, .inl (0, 80, .inl cm)), (2, .inl (0, 1024, .inl cl)), (3, .inr (2, [.int 5, .int 10, .ref 4, .int sz, .int fo, .int tu])), (4, .inl (0, 50, .inl f)), (5, .inr (1, [.ref 6, .ref 7])), (6, .inl (0, 80, .inl fx)), (7, .inl (0, 80, .inl fy))]) [] rfl trivial ?_
      obtain rfl := Option.some.inj hF
      exact Tr_i qX0_fewestArms 14 rfl rfl ⟨rfl, rfl⟩
    · replace hF := gneg hb2 hF
      refine Go.run qX0_fewestArms IX0_ok 5 6 (19, [(0, .ref 0), (1, .ref 3), (2, .ref 5), (3, .int b), (4, .int px), (5, .int py)], [.int py, .int px, .int b, .ref 5, .ref 3, .ref 0], [(0, .inr (0, [.ref 1, .int cz, .ref 2])), (1, .inl (0, 80, .inl cm)), (2, .inl (0, 1024, .inl cl)), (3, .inr (2, [.int 5, .int 10, .ref 4, .int sz, .int fo, .int tu])), (4, .inl (0, 50, .inl f)), (5, .inr (1, [.ref 6, .ref 7])), (6, .inl (0, 80, .inl fx)), (7, .inl (0, 80, .inl fy))]) [] rfl trivial ?_
      obtain ⟨r3, h4, hF⟩ := gbind hF
      refine Tk_v0 qX0_fewestArms 11 rfl (c_X0_collect cz cm sz fo tu f fx fy b px py r3 h4) kX0_20_0 0 rfl rfl [0, 1, 3, 4, 5, 6, 7] rfl rfl rfl rfl ⟨rfl, rfl, by decide, by decide⟩ [] rfl (Nat.le_of_ble_eq_true rfl) [.int r3.1] rfl [(0, .inr (0, [.ref 1, .int r3.2.1, .ref 2])), (1, .inl (0, 80, .inl r3.2.2)), (2, .inl (0, 1024, .inl cl)), (3, .inr (2, [.int 5, .int 10, .ref 4, .int sz, .int fo, .int tu])), (4, .inl (0, 50, .inl f)), (5, .inr (1, [.ref 6, .ref 7])), (6, .inl (0, 80, .inl fx)), (7, .inl (0, 80, .inl fy))] rfl ?_
      refine Ti_ne qX0_fewestArms 12 6 28 rfl rfl (fun hb5 => ?_) (fun hb5 => ?_)
      · replace hF := gneg hb5 hF
        refine Go.run qX0_fewestArms IX0_ok 15 2 (31, [(6, .int 0), (0, .ref 0), (1, .ref 3), (2, .ref 5), (3, .int b), (4, .int px), (5, .int py)], [], [(0, .inr (0, [.ref 1, .int r3.2.1, .ref 2])), (1, .inl (0, 80, .inl r3.2.2)), (2, .inl (0, 1024, .inl cl)), (3, .inr (2, [.int 5, .int 10, .ref 4, .int sz, .int fo, .int tu])), (4, .inl (0, 50, .inl f)), (5, .inr (1, [.ref 6, .ref 7])), (6, .inl (0, 80, .inl fx)), (7, .inl (0, 80, .inl fy))]) [] rfl trivial ?_
        refine Go.loc [1, 2, 3, 4, 5, 6, 0] rfl ?_
        refine t_X0_fewestArms_31 cz cm cl sz fo tu f fx fy b px py r3.2.1 r3.2.2 _ rr (fun l6_31 a2_31 hF => ?_) gN0 0 cl hF
        refine Go.run qX0_fewestArms IX0_ok 27 7 (62, [(6, .int 0), (0, .ref 0), (1, .ref 3), (2, .ref 5), (3, .int b), (4, .int px), (5, .int py)], [], [(0, .inr (0, [.ref 1, .int r3.2.1, .ref 2])), (1, .inl (0, 80, .inl r3.2.2)), (2, .inl (0, 1024, .inl (upd a2_31 0 0))), (3, .inr (2, [.int 5, .int 10, .ref 4, .int sz, .int fo, .int tu])), (4, .inl (0, 50, .inl f)), (5, .inr (1, [.ref 6, .ref 7])), (6, .inl (0, 80, .inl fx)), (7, .inl (0, 80, .inl fy))]) [gvp 0 1024] rfl ⟨(by decide), trivial⟩ ?_
        refine Go.loc [1, 2, 3, 4, 5, 6, 0] rfl ?_
        refine t_X0_fewestArms_62 cz cm cl sz fo tu f fx fy b px py r3.2.1 r3.2.2 _ rr (fun l6_62 a2_62 hF => ?_) gN0 0 (upd a2_31 0 0) hF
        obtain ⟨hc6, hF⟩ := gif hF
        refine Go.run qX0_fewestArms IX0_ok 48 5 (100, [(0, .ref 0), (1, .ref 3), (2, .ref 5), (3, .int b), (4, .int px), (5, .int py), (6, .int l6_62)], [.int 100, .int (a2_62 b.toNatClampNeg)], [(0, .inr (0, [.ref 1, .int r3.2.1, .ref 2])), (1, .inl (0, 80, .inl r3.2.2)), (2, .inl (0, 1024, .inl a2_62)), (3, .inr (2, [.int 5, .int 10, .ref 4, .int sz, .int fo, .int tu])), (4, .inl (0, 50, .inl f)), (5, .inr (1, [.ref 6, .ref 7])), (6, .inl (0, 80, .inl fx)), (7, .inl (0, 80, .inl fy))]) [gvp b 1024] rfl ⟨hc6, trivial⟩ ?_
        refine Tc_ge qX0_fewestArms 53 12 112 rfl rfl (fun hb7 => ?_) (fun hb7 => ?_)
        · replace hF := gpos hb7 hF
          refine Go.run qX0_fewestArms IX0_ok 59 1 (114, [(0, .ref 0), (1, .ref 3), (2, .ref 5), (3, .int b), (4, .int px), (5, .int py), (6, .int l6_62)], [.int (-4)], [(0, .inr (0, [.ref 1, .int r3.2.1, .ref 2])), (1, .inl (0, 80, .inl r3.2.2)), (2, .inl (0, 1024, .inl a2_62)), (3, .inr (2, [.int 5, .int 10, .ref 4, .int sz, .int fo, .int tu])), (4, .inl (0, 50, .inl f)), (5, .inr (1, [.ref 6, .ref 7])), (6, .inl (0, 80, .inl fx)), (7, .inl (0, 80, .inl fy))]) [] rfl trivial ?_
          obtain rfl := Option.some.inj hF
          exact Tr_i qX0_fewestArms 60 rfl rfl ⟨rfl, rfl⟩
        · replace hF := gneg hb7 hF
          obtain ⟨hc8, hF⟩ := gif hF
          refine Go.run qX0_fewestArms IX0_ok 54 5 (114, [(0, .ref 0), (1, .ref 3), (2, .ref 5), (3, .int b), (4, .int px), (5, .int py), (6, .int l6_62)], [.int (a2_62 b.toNatClampNeg)], [(0, .inr (0, [.ref 1, .int r3.2.1, .ref 2])), (1, .inl (0, 80, .inl r3.2.2)), (2, .inl (0, 1024, .inl a2_62)), (3, .inr (2, [.int 5, .int 10, .ref 4, .int sz, .int fo, .int tu])), (4, .inl (0, 50, .inl f)), (5, .inr (1, [.ref 6, .ref 7])), (6, .inl (0, 80, .inl fx)), (7, .inl (0, 80, .inl fy))]) [gvp b 1024] rfl ⟨hc8, trivial⟩ ?_
          obtain rfl := Option.some.inj hF
          exact Tr_i qX0_fewestArms 60 rfl rfl ⟨rfl, rfl⟩
      · replace hF := gpos hb5 hF
        refine Go.run qX0_fewestArms IX0_ok 13 1 (27, [(0, .ref 0), (1, .ref 3), (2, .ref 5), (3, .int b), (4, .int px), (5, .int py)], [.int (-4)], [(0, .inr (0, [.ref 1, .int r3.2.1, .ref 2])), (1, .inl (0, 80, .inl r3.2.2)), (2, .inl (0, 1024, .inl cl)), (3, .inr (2, [.int 5, .int 10, .ref 4, .int sz, .int fo, .int tu])), (4, .inl (0, 50, .inl f)), (5, .inr (1, [.ref 6, .ref 7])), (6, .inl (0, 80, .inl fx)), (7, .inl (0, 80, .inl fy))]) [] rfl trivial ?_
        obtain rfl := Option.some.inj hF
        exact Tr_i qX0_fewestArms 14 rfl rfl ⟨rfl, rfl⟩
