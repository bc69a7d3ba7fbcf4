/-! Written by wip/gen/spec.py: part 12.tape. -/
def R_X7_byteOf : Room := { frames := 0, cells := 0, slots := 0, locals := 0 }
noncomputable def F_X7_byteOf (ww : Int64) (i : Int32) : Option Int32 :=
  some ((glushr ww (8 * i)).toInt32 &&& 255)
set_option maxRecDepth 100000 in
set_option maxHeartbeats 4000000 in
theorem c_X7_byteOf (ww : Int64) (i : Int32) (rr : Int32) (hF : F_X7_byteOf ww i = some rr) : Cd mX7_byteOf R_X7_byteOf [.long ww, .int i] [] (some (.int rr)) [] := by
  unfold F_X7_byteOf at hF
  refine Ct.of rfl (Nat.le_of_ble_eq_true rfl) ?_
  refine Go.run qX7_byteOf IX7_ok 0 8 (11, [(0, .long ww), (2, .int i)], [.int ((glushr ww (8 * i)).toInt32 &&& 255)], []) [] rfl trivial ?_
  obtain rfl := Option.some.inj hF
  exact Tr_i qX7_byteOf 8 rfl rfl ⟨rfl, rfl⟩
def R_X7_canHold : Room := { frames := 1, cells := 0, slots := 0, locals := 22 }
noncomputable def FL_X7_canHold_15 (ww : Int64) (k : Int32) (kk49 : Int32 → Option Int32) : Nat → Int32 → Option Int32
  | 0, _ => none
  | fu + 1, l3_15 => if k ≤ l3_15 then (kk49 l3_15) else ((F_X7_byteOf ww l3_15).bind fun r1152 => if r1152 < 32 then (some 0) else (if r1152 ≤ 126 then (FL_X7_canHold_15 ww k kk49 fu (l3_15 + 1)) else (some 0)))
noncomputable def F_X7_canHold (ww : Int64) (k : Int32) : Option Int32 :=
  if k < 1 then (some 0) else (if k ≤ 8 then (FL_X7_canHold_15 ww k (fun l3_15 => some 1) gN0 0) else (some 0))
set_option maxRecDepth 100000 in
set_option maxHeartbeats 4000000 in
theorem t_X7_canHold_15 (ww : Int64) (k : Int32) (kk49 : Int32 → Option Int32) (rr : Int32)  (hk49 : ∀ (l3_15 : Int32), kk49 l3_15 = some rr → Go mX7_canHold R_X7_canHold (gRet mX7_canHold (fun r0 w0 => r0 = some (.int rr) ∧ w0 = [])) (49, [(0, .long ww), (2, .int k), (3, .int l3_15)], [], [])) : ∀ (fu : Nat) (l3_15 : Int32), FL_X7_canHold_15 ww k kk49 fu l3_15 = some rr → Go mX7_canHold R_X7_canHold (gRet mX7_canHold (fun r0 w0 => r0 = some (.int rr) ∧ w0 = [])) (15, [(0, .long ww), (2, .int k), (3, .int l3_15)], [], []) := by
  intro fu
  induction fu with
  | zero =>
    intro l3_15 hF
    cases hF
  | succ fu ih =>
    intro l3_15 hF
    unfold FL_X7_canHold_15 at hF
    refine Go.run qX7_canHold IX7_ok 10 2 (17, [(0, .long ww), (2, .int k), (3, .int l3_15)], [.int k, .int l3_15], []) [] rfl trivial ?_
    refine Tc_ge qX7_canHold 12 32 49 rfl rfl (fun hb1151 => ?_) (fun hb1151 => ?_)
    · replace hF := gpos hb1151 hF
      exact hk49 l3_15 hF
    · replace hF := gneg hb1151 hF
      refine Go.run qX7_canHold IX7_ok 13 2 (22, [(0, .long ww), (2, .int k), (3, .int l3_15)], [.int l3_15, .long ww], []) [] rfl trivial ?_
      obtain ⟨r1152, h1153, hF⟩ := gbind hF
      refine Tk_s qX7_canHold 15 rfl (c_X7_byteOf ww l3_15 r1152 h1153) kX7_15 (gr []) [] rfl rfl rfl rfl ⟨rfl, rfl, by decide, by decide⟩ [] rfl (Nat.le_of_ble_eq_true rfl) [.int r1152] rfl [] rfl ?_
      refine Go.run qX7_canHold IX7_ok 16 3 (31, [(4, .int r1152), (0, .long ww), (2, .int k), (3, .int l3_15)], [.int 32, .int r1152], []) [] rfl trivial ?_
      refine Tc_lt qX7_canHold 19 10 41 rfl rfl (fun hb1154 => ?_) (fun hb1154 => ?_)
      · replace hF := gpos hb1154 hF
        refine Go.run qX7_canHold IX7_ok 23 1 (42, [(4, .int r1152), (0, .long ww), (2, .int k), (3, .int l3_15)], [.int 0], []) [] rfl trivial ?_
        obtain rfl := Option.some.inj hF
        exact Tr_z qX7_canHold 24 rfl rfl (by decide) ⟨rfl, rfl⟩
      · replace hF := gneg hb1154 hF
        refine Go.run qX7_canHold IX7_ok 20 2 (38, [(4, .int r1152), (0, .long ww), (2, .int k), (3, .int l3_15)], [.int 126, .int r1152], []) [] rfl trivial ?_
        refine Tc_le qX7_canHold 22 5 43 rfl rfl (fun hb1155 => ?_) (fun hb1155 => ?_)
        · replace hF := gpos hb1155 hF
          refine Go.run qX7_canHold IX7_ok 25 2 (15, [(3, .int (l3_15 + 1)), (4, .int r1152), (0, .long ww), (2, .int k)], [], []) [] rfl trivial ?_
          refine Go.loc [2, 3, 0] rfl ?_
          exact ih (l3_15 + 1) hF
        · replace hF := gneg hb1155 hF
          refine Go.run qX7_canHold IX7_ok 23 1 (42, [(4, .int r1152), (0, .long ww), (2, .int k), (3, .int l3_15)], [.int 0], []) [] rfl trivial ?_
          obtain rfl := Option.some.inj hF
          exact Tr_z qX7_canHold 24 rfl rfl (by decide) ⟨rfl, rfl⟩
set_option maxRecDepth 100000 in
set_option maxHeartbeats 4000000 in
theorem c_X7_canHold (ww : Int64) (k : Int32) (rr : Int32) (hF : F_X7_canHold ww k = some rr) : Cd mX7_canHold R_X7_canHold [.long ww, .int k] [] (some (.int rr)) [] := by
  unfold F_X7_canHold at hF
  refine Ct.of rfl (Nat.le_of_ble_eq_true rfl) ?_
  refine Go.run qX7_canHold IX7_ok 0 2 (2, [(0, .long ww), (2, .int k)], [.int 1, .int k], []) [] rfl trivial ?_
  refine Tc_lt qX7_canHold 2 9 11 rfl rfl (fun hb1 => ?_) (fun hb1 => ?_)
  · replace hF := gpos hb1 hF
    refine Go.run qX7_canHold IX7_ok 6 1 (12, [(0, .long ww), (2, .int k)], [.int 0], []) [] rfl trivial ?_
    obtain rfl := Option.some.inj hF
    exact Tr_z qX7_canHold 7 rfl rfl (by decide) ⟨rfl, rfl⟩
  · replace hF := gneg hb1 hF
    refine Go.run qX7_canHold IX7_ok 3 2 (8, [(0, .long ww), (2, .int k)], [.int 8, .int k], []) [] rfl trivial ?_
    refine Tc_le qX7_canHold 5 5 13 rfl rfl (fun hb2 => ?_) (fun hb2 => ?_)
    · replace hF := gpos hb2 hF
      refine Go.run qX7_canHold IX7_ok 8 2 (15, [(3, .int 0), (0, .long ww), (2, .int k)], [], []) [] rfl trivial ?_
      refine Go.loc [1, 2, 0] rfl ?_
      refine t_X7_canHold_15 ww k _ rr (fun l3_15 hF => ?_) gN0 0 hF
      refine Go.run qX7_canHold IX7_ok 27 1 (50, [(0, .long ww), (2, .int k), (3, .int l3_15)], [.int 1], []) [] rfl trivial ?_
      obtain rfl := Option.some.inj hF
      exact Tr_z qX7_canHold 28 rfl rfl (by decide) ⟨rfl, rfl⟩
    · replace hF := gneg hb2 hF
      refine Go.run qX7_canHold IX7_ok 6 1 (12, [(0, .long ww), (2, .int k)], [.int 0], []) [] rfl trivial ?_
      obtain rfl := Option.some.inj hF
      exact Tr_z qX7_canHold 7 rfl rfl (by decide) ⟨rfl, rfl⟩
def R_X7_isDigit : Room := { frames := 0, cells := 0, slots := 0, locals := 0 }
noncomputable def F_X7_isDigit (b : Int32) : Option Int32 :=
  if b < 48 then (some 0) else (if 57 < b then (some 0) else (some 1))
set_option maxRecDepth 100000 in
set_option maxHeartbeats 4000000 in
theorem c_X7_isDigit (b : Int32) (rr : Int32) (hF : F_X7_isDigit b = some rr) : Cd mX7_isDigit R_X7_isDigit [.int b] [] (some (.int rr)) [] := by
  unfold F_X7_isDigit at hF
  refine Ct.of rfl (Nat.le_of_ble_eq_true rfl) ?_
  refine Go.run qX7_isDigit IX7_ok 0 2 (3, [(0, .int b)], [.int 48, .int b], []) [] rfl trivial ?_
  refine Tc_lt qX7_isDigit 2 13 16 rfl rfl (fun hb1 => ?_) (fun hb1 => ?_)
  · replace hF := gpos hb1 hF
    refine Go.run qX7_isDigit IX7_ok 8 1 (17, [(0, .int b)], [.int 0], []) [] rfl trivial ?_
    obtain rfl := Option.some.inj hF
    exact Tr_z qX7_isDigit 9 rfl rfl (by decide) ⟨rfl, rfl⟩
  · replace hF := gneg hb1 hF
    refine Go.run qX7_isDigit IX7_ok 3 2 (9, [(0, .int b)], [.int 57, .int b], []) [] rfl trivial ?_
    refine Tc_gt qX7_isDigit 5 7 16 rfl rfl (fun hb2 => ?_) (fun hb2 => ?_)
    · replace hF := gpos hb2 hF
      refine Go.run qX7_isDigit IX7_ok 8 1 (17, [(0, .int b)], [.int 0], []) [] rfl trivial ?_
      obtain rfl := Option.some.inj hF
      exact Tr_z qX7_isDigit 9 rfl rfl (by decide) ⟨rfl, rfl⟩
    · replace hF := gneg hb2 hF
      refine Go.run qX7_isDigit IX7_ok 6 2 (17, [(0, .int b)], [.int 1], []) [] rfl trivial ?_
      obtain rfl := Option.some.inj hF
      exact Tr_z qX7_isDigit 9 rfl rfl (by decide) ⟨rfl, rfl⟩
def R_X7_size : Room := { frames := 0, cells := 0, slots := 0, locals := 0 }
noncomputable def F_X7_size (ts : Int32) : Option Int32 :=
  some ts
set_option maxRecDepth 100000 in
set_option maxHeartbeats 4000000 in
theorem c_X7_size (ts : Int32) (tp : Int32) (tl : Int32) (rr : Int32) (hF : F_X7_size ts = some rr) : Cd mX7_size R_X7_size [.ref 0] [(0, .inr (7, [.ref 1, .int ts, .int tp, .int tl]))] (some (.int rr)) [(0, .inr (7, [.ref 1, .int ts, .int tp, .int tl]))] := by
  unfold F_X7_size at hF
  refine Ct.of rfl (Nat.le_of_ble_eq_true rfl) ?_
  refine Go.run qX7_size IX7_ok 0 2 (4, [(0, .ref 0)], [.int ts], [(0, .inr (7, [.ref 1, .int ts, .int tp, .int tl]))]) [] rfl trivial ?_
  obtain rfl := Option.some.inj hF
  exact Tr_i qX7_size 2 rfl rfl ⟨rfl, rfl⟩
def R_X7_append : Room := { frames := 1, cells := 0, slots := 0, locals := 22 }
noncomputable def FL_X7_append_22 (ww : Int64) (kk58 : Int32 → Int32 → (Nat → Int32) → Option (Int32 × Int32 × (Nat → Int32))) : Nat → Int32 → Int32 → (Nat → Int32) → Option (Int32 × Int32 × (Nat → Int32))
  | 0, _, _, _ => none
  | fu + 1, l4_22, w0_1_22, a1_22 => if l4_22 < 0 then (kk58 l4_22 w0_1_22 a1_22) else ((F_X7_byteOf ww l4_22).bind fun r1222 => if gvp w0_1_22 100 then (FL_X7_append_22 ww kk58 fu (l4_22 + (-1)) (w0_1_22 + 1) (upd a1_22 w0_1_22.toNatClampNeg r1222)) else none)
noncomputable def F_X7_append (ts : Int32) (tb : Nat → Int32) (ww : Int64) (k : Int32) : Option (Int32 × Int32 × (Nat → Int32)) :=
  if k < 0 then (some (0, ts, tb)) else (if k ≤ (100 - ts) then (FL_X7_append_22 ww (fun l4_22 w0_1_22 a1_22 => some (1, w0_1_22, a1_22)) gN0 (k - 1) ts tb) else (some (0, ts, tb)))
set_option maxRecDepth 100000 in
set_option maxHeartbeats 4000000 in
theorem t_X7_append_22 (ts : Int32) (tp : Int32) (tl : Int32) (tb : Nat → Int32) (ww : Int64) (k : Int32) (kk58 : Int32 → Int32 → (Nat → Int32) → Option (Int32 × Int32 × (Nat → Int32))) (rr : Int32 × Int32 × (Nat → Int32))  (hk58 : ∀ (l4_22 : Int32) (w0_1_22 : Int32) (a1_22 : Nat → Int32), kk58 l4_22 w0_1_22 a1_22 = some rr → Go mX7_append R_X7_append (gRet mX7_append (fun r0 w0 => r0 = some (.int rr.1) ∧ w0 = [(0, .inr (7, [.ref 1, .int rr.2.1, .int tp, .int tl])), (1, .inl (0, 100, .inl rr.2.2))])) (58, [(0, .ref 0), (1, .long ww), (3, .int k), (4, .int l4_22)], [], [(0, .inr (7, [.ref 1, .int w0_1_22, .int tp, .int tl])), (1, .inl (0, 100, .inl a1_22))])) : ∀ (fu : Nat) (l4_22 : Int32) (w0_1_22 : Int32) (a1_22 : Nat → Int32), FL_X7_append_22 ww kk58 fu l4_22 w0_1_22 a1_22 = some rr → Go mX7_append R_X7_append (gRet mX7_append (fun r0 w0 => r0 = some (.int rr.1) ∧ w0 = [(0, .inr (7, [.ref 1, .int rr.2.1, .int tp, .int tl])), (1, .inl (0, 100, .inl rr.2.2))])) (22, [(0, .ref 0), (1, .long ww), (3, .int k), (4, .int l4_22)], [], [(0, .inr (7, [.ref 1, .int w0_1_22, .int tp, .int tl])), (1, .inl (0, 100, .inl a1_22))]) := by
  intro fu
  induction fu with
  | zero =>
    intro l4_22 w0_1_22 a1_22 hF
    cases hF
  | succ fu ih =>
    intro l4_22 w0_1_22 a1_22 hF
    unfold FL_X7_append_22 at hF
    refine Go.run qX7_append IX7_ok 14 1 (24, [(0, .ref 0), (1, .long ww), (3, .int k), (4, .int l4_22)], [.int l4_22], [(0, .inr (7, [.ref 1, .int w0_1_22, .int tp, .int tl])), (1, .inl (0, 100, .inl a1_22))]) [] rfl trivial ?_
    refine Ti_lt qX7_append 15 34 58 rfl rfl (fun hb1221 => ?_) (fun hb1221 => ?_)
    · replace hF := gpos hb1221 hF
      exact hk58 l4_22 w0_1_22 a1_22 hF
    · replace hF := gneg hb1221 hF
      refine Go.run qX7_append IX7_ok 16 6 (38, [(0, .ref 0), (1, .long ww), (3, .int k), (4, .int l4_22)], [.int l4_22, .long ww, .int w0_1_22, .ref 1], [(0, .inr (7, [.ref 1, .int w0_1_22, .int tp, .int tl])), (1, .inl (0, 100, .inl a1_22))]) [] rfl trivial ?_
      obtain ⟨r1222, h1223, hF⟩ := gbind hF
      refine Tk_s qX7_append 22 rfl (c_X7_byteOf ww l4_22 r1222 h1223) kX7_15 (gr []) [] rfl rfl rfl rfl ⟨rfl, rfl, by decide, by decide⟩ [.int w0_1_22, .ref 1] rfl (Nat.le_of_ble_eq_true rfl) [.int r1222, .int w0_1_22, .ref 1] rfl [(0, .inr (7, [.ref 1, .int w0_1_22, .int tp, .int tl])), (1, .inl (0, 100, .inl a1_22))] rfl ?_
      obtain ⟨hc1224, hF⟩ := gif hF
      refine Go.run qX7_append IX7_ok 23 9 (22, [(4, .int (l4_22 + (-1))), (0, .ref 0), (1, .long ww), (3, .int k)], [], [(0, .inr (7, [.ref 1, .int (w0_1_22 + 1), .int tp, .int tl])), (1, .inl (0, 100, .inl (upd a1_22 w0_1_22.toNatClampNeg r1222)))]) [gvp w0_1_22 100] rfl ⟨hc1224, trivial⟩ ?_
      refine Go.loc [1, 2, 3, 0] rfl ?_
      exact ih (l4_22 + (-1)) (w0_1_22 + 1) (upd a1_22 w0_1_22.toNatClampNeg r1222) hF
set_option maxRecDepth 100000 in
set_option maxHeartbeats 4000000 in
theorem c_X7_append (ts : Int32) (tp : Int32) (tl : Int32) (tb : Nat → Int32) (ww : Int64) (k : Int32) (rr : Int32 × Int32 × (Nat → Int32)) (hF : F_X7_append ts tb ww k = some rr) : Cd mX7_append R_X7_append [.ref 0, .long ww, .int k] [(0, .inr (7, [.ref 1, .int ts, .int tp, .int tl])), (1, .inl (0, 100, .inl tb))] (some (.int rr.1)) [(0, .inr (7, [.ref 1, .int rr.2.1, .int tp, .int tl])), (1, .inl (0, 100, .inl rr.2.2))] := by
  unfold F_X7_append at hF
  refine Ct.of rfl (Nat.le_of_ble_eq_true rfl) ?_
  refine Go.run qX7_append IX7_ok 0 1 (1, [(0, .ref 0), (1, .long ww), (3, .int k)], [.int k], [(0, .inr (7, [.ref 1, .int ts, .int tp, .int tl])), (1, .inl (0, 100, .inl tb))]) [] rfl trivial ?_
  refine Ti_lt qX7_append 1 14 15 rfl rfl (fun hb1 => ?_) (fun hb1 => ?_)
  · replace hF := gpos hb1 hF
    refine Go.run qX7_append IX7_ok 8 1 (16, [(0, .ref 0), (1, .long ww), (3, .int k)], [.int 0], [(0, .inr (7, [.ref 1, .int ts, .int tp, .int tl])), (1, .inl (0, 100, .inl tb))]) [] rfl trivial ?_
    obtain rfl := Option.some.inj hF
    exact Tr_z qX7_append 9 rfl rfl (by decide) ⟨rfl, rfl⟩
  · replace hF := gneg hb1 hF
    refine Go.run qX7_append IX7_ok 2 5 (12, [(0, .ref 0), (1, .long ww), (3, .int k)], [.int (100 - ts), .int k], [(0, .inr (7, [.ref 1, .int ts, .int tp, .int tl])), (1, .inl (0, 100, .inl tb))]) [] rfl trivial ?_
    refine Tc_le qX7_append 7 5 17 rfl rfl (fun hb2 => ?_) (fun hb2 => ?_)
    · replace hF := gpos hb2 hF
      refine Go.run qX7_append IX7_ok 10 4 (22, [(4, .int (k - 1)), (0, .ref 0), (1, .long ww), (3, .int k)], [], [(0, .inr (7, [.ref 1, .int ts, .int tp, .int tl])), (1, .inl (0, 100, .inl tb))]) [] rfl trivial ?_
      refine Go.loc [1, 2, 3, 0] rfl ?_
      refine t_X7_append_22 ts tp tl tb ww k _ rr (fun l4_22 w0_1_22 a1_22 hF => ?_) gN0 (k - 1) ts tb hF
      refine Go.run qX7_append IX7_ok 32 1 (59, [(0, .ref 0), (1, .long ww), (3, .int k), (4, .int l4_22)], [.int 1], [(0, .inr (7, [.ref 1, .int w0_1_22, .int tp, .int tl])), (1, .inl (0, 100, .inl a1_22))]) [] rfl trivial ?_
      obtain rfl := Option.some.inj hF
      exact Tr_z qX7_append 33 rfl rfl (by decide) ⟨rfl, rfl⟩
    · replace hF := gneg hb2 hF
      refine Go.run qX7_append IX7_ok 8 1 (16, [(0, .ref 0), (1, .long ww), (3, .int k)], [.int 0], [(0, .inr (7, [.ref 1, .int ts, .int tp, .int tl])), (1, .inl (0, 100, .inl tb))]) [] rfl trivial ?_
      obtain rfl := Option.some.inj hF
      exact Tr_z qX7_append 9 rfl rfl (by decide) ⟨rfl, rfl⟩
def R_X7_begin : Room := { frames := 0, cells := 0, slots := 0, locals := 0 }
noncomputable def F_X7_begin  : Option (Int32 × Int32) :=
  some (0, 0)
set_option maxRecDepth 100000 in
set_option maxHeartbeats 4000000 in
theorem c_X7_begin (ts : Int32) (tp : Int32) (tl : Int32) (rr : Int32 × Int32) (hF : F_X7_begin  = some rr) : Cd mX7_begin R_X7_begin [.ref 0] [(0, .inr (7, [.ref 1, .int ts, .int tp, .int tl]))] (none) [(0, .inr (7, [.ref 1, .int ts, .int rr.1, .int rr.2]))] := by
  unfold F_X7_begin at hF
  refine Ct.of rfl (Nat.le_of_ble_eq_true rfl) ?_
  refine Go.run qX7_begin IX7_ok 0 6 (10, [(0, .ref 0)], [], [(0, .inr (7, [.ref 1, .int ts, .int 0, .int 0]))]) [] rfl trivial ?_
  obtain rfl := Option.some.inj hF
  exact Tr_v qX7_begin 6 rfl rfl ⟨rfl, rfl⟩
def R_X7_next : Room := { frames := 0, cells := 0, slots := 0, locals := 0 }
noncomputable def FL_X7_next_0 (ts : Int32) (tb : Nat → Int32) (kk38 : Int32 → Option (Int32 × Int32)) : Nat → Int32 → Option (Int32 × Int32)
  | 0, _ => none
  | fu + 1, w0_2_0 => if ts ≤ w0_2_0 then (kk38 w0_2_0) else (if gvp w0_2_0 100 then (if (tb w0_2_0.toNatClampNeg) = 32 then (FL_X7_next_0 ts tb kk38 fu (w0_2_0 + 1)) else (kk38 w0_2_0)) else none)
noncomputable def F_X7_next (ts : Int32) (tp : Int32) (tb : Nat → Int32) : Option (Int32 × Int32) :=
  FL_X7_next_0 ts tb (fun w0_2_0 => if ts ≤ w0_2_0 then (some ((-1), w0_2_0)) else (if gvp w0_2_0 100 then (some ((tb w0_2_0.toNatClampNeg), w0_2_0)) else none)) gN0 tp
set_option maxRecDepth 100000 in
set_option maxHeartbeats 4000000 in
theorem t_X7_next_0 (ts : Int32) (tp : Int32) (tl : Int32) (tb : Nat → Int32) (kk38 : Int32 → Option (Int32 × Int32)) (rr : Int32 × Int32)  (hk38 : ∀ (w0_2_0 : Int32), kk38 w0_2_0 = some rr → Go mX7_next R_X7_next (gRet mX7_next (fun r0 w0 => r0 = some (.int rr.1) ∧ w0 = [(0, .inr (7, [.ref 1, .int ts, .int rr.2, .int tl])), (1, .inl (0, 100, .inl tb))])) (38, [(0, .ref 0)], [], [(0, .inr (7, [.ref 1, .int ts, .int w0_2_0, .int tl])), (1, .inl (0, 100, .inl tb))])) : ∀ (fu : Nat) (w0_2_0 : Int32), FL_X7_next_0 ts tb kk38 fu w0_2_0 = some rr → Go mX7_next R_X7_next (gRet mX7_next (fun r0 w0 => r0 = some (.int rr.1) ∧ w0 = [(0, .inr (7, [.ref 1, .int ts, .int rr.2, .int tl])), (1, .inl (0, 100, .inl tb))])) (0, [(0, .ref 0)], [], [(0, .inr (7, [.ref 1, .int ts, .int w0_2_0, .int tl])), (1, .inl (0, 100, .inl tb))]) := by
  intro fu
  induction fu with
  | zero =>
    intro w0_2_0 hF
    cases hF
  | succ fu ih =>
    intro w0_2_0 hF
    unfold FL_X7_next_0 at hF
    refine Go.run qX7_next IX7_ok 0 4 (8, [(0, .ref 0)], [.int ts, .int w0_2_0], [(0, .inr (7, [.ref 1, .int ts, .int w0_2_0, .int tl])), (1, .inl (0, 100, .inl tb))]) [] rfl trivial ?_
    refine Tc_ge qX7_next 4 30 38 rfl rfl (fun hb1001 => ?_) (fun hb1001 => ?_)
    · replace hF := gpos hb1001 hF
      exact hk38 w0_2_0 hF
    · replace hF := gneg hb1001 hF
      obtain ⟨hc1002, hF⟩ := gif hF
      refine Go.run qX7_next IX7_ok 5 6 (22, [(0, .ref 0)], [.int 32, .int (tb w0_2_0.toNatClampNeg)], [(0, .inr (7, [.ref 1, .int ts, .int w0_2_0, .int tl])), (1, .inl (0, 100, .inl tb))]) [gvp w0_2_0 100] rfl ⟨hc1002, trivial⟩ ?_
      refine Tc_ne qX7_next 11 16 38 rfl rfl (fun hb1003 => ?_) (fun hb1003 => ?_)
      · replace hF := gneg hb1003 hF
        exact hk38 w0_2_0 hF
      · replace hF := gpos hb1003 hF
        refine Go.run qX7_next IX7_ok 12 7 (0, [(0, .ref 0)], [], [(0, .inr (7, [.ref 1, .int ts, .int (w0_2_0 + 1), .int tl])), (1, .inl (0, 100, .inl tb))]) [] rfl trivial ?_
        exact ih (w0_2_0 + 1) hF
set_option maxRecDepth 100000 in
set_option maxHeartbeats 4000000 in
theorem c_X7_next (ts : Int32) (tp : Int32) (tl : Int32) (tb : Nat → Int32) (rr : Int32 × Int32) (hF : F_X7_next ts tp tb = some rr) : Cd mX7_next R_X7_next [.ref 0] [(0, .inr (7, [.ref 1, .int ts, .int tp, .int tl])), (1, .inl (0, 100, .inl tb))] (some (.int rr.1)) [(0, .inr (7, [.ref 1, .int ts, .int rr.2, .int tl])), (1, .inl (0, 100, .inl tb))] := by
  unfold F_X7_next at hF
  refine Ct.of rfl (Nat.le_of_ble_eq_true rfl) ?_
  refine t_X7_next_0 ts tp tl tb _ rr (fun w0_2_0 hF => ?_) gN0 tp hF
  refine Go.run qX7_next IX7_ok 19 4 (46, [(0, .ref 0)], [.int ts, .int w0_2_0], [(0, .inr (7, [.ref 1, .int ts, .int w0_2_0, .int tl])), (1, .inl (0, 100, .inl tb))]) [] rfl trivial ?_
  refine Tc_ge qX7_next 23 15 61 rfl rfl (fun hb1 => ?_) (fun hb1 => ?_)
  · replace hF := gpos hb1 hF
    refine Go.run qX7_next IX7_ok 30 1 (62, [(0, .ref 0)], [.int (-1)], [(0, .inr (7, [.ref 1, .int ts, .int w0_2_0, .int tl])), (1, .inl (0, 100, .inl tb))]) [] rfl trivial ?_
    obtain rfl := Option.some.inj hF
    exact Tr_i qX7_next 31 rfl rfl ⟨rfl, rfl⟩
  · replace hF := gneg hb1 hF
    obtain ⟨hc2, hF⟩ := gif hF
    refine Go.run qX7_next IX7_ok 24 6 (62, [(0, .ref 0)], [.int (tb w0_2_0.toNatClampNeg)], [(0, .inr (7, [.ref 1, .int ts, .int w0_2_0, .int tl])), (1, .inl (0, 100, .inl tb))]) [gvp w0_2_0 100] rfl ⟨hc2, trivial⟩ ?_
    obtain rfl := Option.some.inj hF
    exact Tr_i qX7_next 31 rfl rfl ⟨rfl, rfl⟩
def R_X7_failAt : Room := { frames := 0, cells := 0, slots := 0, locals := 0 }
noncomputable def F_X7_failAt (tl : Int32) (b : Int32) : Option Int32 :=
  if tl = 0 then (some ((-20) - b)) else (some tl)
set_option maxRecDepth 100000 in
set_option maxHeartbeats 4000000 in
theorem c_X7_failAt (ts : Int32) (tp : Int32) (tl : Int32) (b : Int32) (rr : Int32) (hF : F_X7_failAt tl b = some rr) : Cd mX7_failAt R_X7_failAt [.ref 0, .int b] [(0, .inr (7, [.ref 1, .int ts, .int tp, .int tl]))] (none) [(0, .inr (7, [.ref 1, .int ts, .int tp, .int rr]))] := by
  unfold F_X7_failAt at hF
  refine Ct.of rfl (Nat.le_of_ble_eq_true rfl) ?_
  refine Go.run qX7_failAt IX7_ok 0 2 (4, [(0, .ref 0), (1, .int b)], [.int tl], [(0, .inr (7, [.ref 1, .int ts, .int tp, .int tl]))]) [] rfl trivial ?_
  refine Ti_ne qX7_failAt 2 11 15 rfl rfl (fun hb1 => ?_) (fun hb1 => ?_)
  · replace hF := gneg hb1 hF
    obtain rfl := Option.some.inj hF
    exact Tr_v qX7_failAt 8 rfl rfl ⟨rfl, rfl⟩
  · replace hF := gpos hb1 hF
    refine Go.run qX7_failAt IX7_ok 3 5 (15, [(0, .ref 0), (1, .int b)], [], [(0, .inr (7, [.ref 1, .int ts, .int tp, .int ((-20) - b)]))]) [] rfl trivial ?_
    obtain rfl := Option.some.inj hF
    exact Tr_v qX7_failAt 8 rfl rfl ⟨rfl, rfl⟩
def R_X7_finish : Room := { frames := 1, cells := 0, slots := 0, locals := 21 }
noncomputable def F_X7_finish (ts : Int32) (tp : Int32) (tl : Int32) (tb : Nat → Int32) : Option (Int32 × Int32 × Int32 × Int32) :=
  (F_X7_next ts tp tb).bind fun r1 => if r1.1 = (-1) then (some (tl, 0, r1.2, tl)) else ((F_X7_failAt tl r1.2).bind fun r4 => some (r4, 0, r1.2, r4))
set_option maxRecDepth 100000 in
set_option maxHeartbeats 4000000 in
theorem c_X7_finish (ts : Int32) (tp : Int32) (tl : Int32) (tb : Nat → Int32) (rr : Int32 × Int32 × Int32 × Int32) (hF : F_X7_finish ts tp tl tb = some rr) : Cd mX7_finish R_X7_finish [.ref 0] [(0, .inr (7, [.ref 1, .int ts, .int tp, .int tl])), (1, .inl (0, 100, .inl tb))] (some (.int rr.1)) [(0, .inr (7, [.ref 1, .int rr.2.1, .int rr.2.2.1, .int rr.2.2.2])), (1, .inl (0, 100, .inl tb))] := by
  unfold F_X7_finish at hF
  refine Ct.of rfl (Nat.le_of_ble_eq_true rfl) ?_
  refine Go.run qX7_finish IX7_ok 0 1 (1, [(0, .ref 0)], [.ref 0], [(0, .inr (7, [.ref 1, .int ts, .int tp, .int tl])), (1, .inl (0, 100, .inl tb))]) [] rfl trivial ?_
  obtain ⟨r1, h2, hF⟩ := gbind hF
  refine Tk_v0 qX7_finish 1 rfl (c_X7_next ts tp tl tb r1 h2) kX7_29_7 0 rfl rfl [0, 1] rfl rfl rfl rfl ⟨rfl, rfl, by decide, by decide⟩ [] rfl (Nat.le_of_ble_eq_true rfl) [.int r1.1] rfl [(0, .inr (7, [.ref 1, .int ts, .int r1.2, .int tl])), (1, .inl (0, 100, .inl tb))] rfl ?_
  refine Go.run qX7_finish IX7_ok 2 1 (5, [(0, .ref 0)], [.int (-1), .int r1.1], [(0, .inr (7, [.ref 1, .int ts, .int r1.2, .int tl])), (1, .inl (0, 100, .inl tb))]) [] rfl trivial ?_
  refine Tc_eq qX7_finish 3 11 16 rfl rfl (fun hb3 => ?_) (fun hb3 => ?_)
  · replace hF := gpos hb3 hF
    refine Go.run qX7_finish IX7_ok 8 5 (25, [(0, .ref 0)], [.int tl], [(0, .inr (7, [.ref 1, .int 0, .int r1.2, .int tl])), (1, .inl (0, 100, .inl tb))]) [] rfl trivial ?_
    obtain rfl := Option.some.inj hF
    exact Tr_i qX7_finish 13 rfl rfl ⟨rfl, rfl⟩
  · replace hF := gneg hb3 hF
    refine Go.run qX7_finish IX7_ok 4 3 (13, [(0, .ref 0)], [.int r1.2, .ref 0], [(0, .inr (7, [.ref 1, .int ts, .int r1.2, .int tl])), (1, .inl (0, 100, .inl tb))]) [] rfl trivial ?_
    obtain ⟨r4, h5, hF⟩ := gbind hF
    refine Tk_v0 qX7_finish 7 rfl (c_X7_failAt ts r1.2 tl r1.2 r4 h5) kX7_33_7 0 rfl rfl [0] rfl rfl rfl rfl ⟨rfl, rfl, by decide, by decide⟩ [] rfl (Nat.le_of_ble_eq_true rfl) [] rfl [(0, .inr (7, [.ref 1, .int ts, .int r1.2, .int r4])), (1, .inl (0, 100, .inl tb))] rfl ?_
    refine Go.run qX7_finish IX7_ok 8 5 (25, [(0, .ref 0)], [.int r4], [(0, .inr (7, [.ref 1, .int 0, .int r1.2, .int r4])), (1, .inl (0, 100, .inl tb))]) [] rfl trivial ?_
    obtain rfl := Option.some.inj hF
    exact Tr_i qX7_finish 13 rfl rfl ⟨rfl, rfl⟩
def R_X7_placeOfNext : Room := { frames := 1, cells := 0, slots := 0, locals := 20 }
noncomputable def F_X7_placeOfNext (ts : Int32) (tp : Int32) (tb : Nat → Int32) : Option (Int32 × Int32) :=
  (F_X7_next ts tp tb).bind fun r1 => some (r1.2, r1.2)
set_option maxRecDepth 100000 in
set_option maxHeartbeats 4000000 in
theorem c_X7_placeOfNext (ts : Int32) (tp : Int32) (tl : Int32) (tb : Nat → Int32) (rr : Int32 × Int32) (hF : F_X7_placeOfNext ts tp tb = some rr) : Cd mX7_placeOfNext R_X7_placeOfNext [.ref 0] [(0, .inr (7, [.ref 1, .int ts, .int tp, .int tl])), (1, .inl (0, 100, .inl tb))] (some (.int rr.1)) [(0, .inr (7, [.ref 1, .int ts, .int rr.2, .int tl])), (1, .inl (0, 100, .inl tb))] := by
  unfold F_X7_placeOfNext at hF
  refine Ct.of rfl (Nat.le_of_ble_eq_true rfl) ?_
  refine Go.run qX7_placeOfNext IX7_ok 0 1 (1, [(0, .ref 0)], [.ref 0], [(0, .inr (7, [.ref 1, .int ts, .int tp, .int tl])), (1, .inl (0, 100, .inl tb))]) [] rfl trivial ?_
  obtain ⟨r1, h2, hF⟩ := gbind hF
  refine Tk_v0 qX7_placeOfNext 1 rfl (c_X7_next ts tp tl tb r1 h2) kX7_29_7 0 rfl rfl [0, 1] rfl rfl rfl rfl ⟨rfl, rfl, by decide, by decide⟩ [] rfl (Nat.le_of_ble_eq_true rfl) [.int r1.1] rfl [(0, .inr (7, [.ref 1, .int ts, .int r1.2, .int tl])), (1, .inl (0, 100, .inl tb))] rfl ?_
  refine Go.run qX7_placeOfNext IX7_ok 2 3 (9, [(0, .ref 0)], [.int r1.2], [(0, .inr (7, [.ref 1, .int ts, .int r1.2, .int tl])), (1, .inl (0, 100, .inl tb))]) [] rfl trivial ?_
  obtain rfl := Option.some.inj hF
  exact Tr_i qX7_placeOfNext 5 rfl rfl ⟨rfl, rfl⟩
def R_X7_takes : Room := { frames := 1, cells := 0, slots := 0, locals := 20 }
noncomputable def F_X7_takes (ts : Int32) (tp : Int32) (tl : Int32) (tb : Nat → Int32) (c : Int32) : Option (Int32 × Int32) :=
  if tl = 0 then ((F_X7_next ts tp tb).bind fun r2 => if r2.1 = c then (some (1, (r2.2 + 1))) else (some (0, r2.2))) else (some (0, tp))
set_option maxRecDepth 100000 in
set_option maxHeartbeats 4000000 in
theorem c_X7_takes (ts : Int32) (tp : Int32) (tl : Int32) (tb : Nat → Int32) (c : Int32) (rr : Int32 × Int32) (hF : F_X7_takes ts tp tl tb c = some rr) : Cd mX7_takes R_X7_takes [.ref 0, .int c] [(0, .inr (7, [.ref 1, .int ts, .int tp, .int tl])), (1, .inl (0, 100, .inl tb))] (some (.int rr.1)) [(0, .inr (7, [.ref 1, .int ts, .int rr.2, .int tl])), (1, .inl (0, 100, .inl tb))] := by
  unfold F_X7_takes at hF
  refine Ct.of rfl (Nat.le_of_ble_eq_true rfl) ?_
  refine Go.run qX7_takes IX7_ok 0 2 (4, [(0, .ref 0), (1, .int c)], [.int tl], [(0, .inr (7, [.ref 1, .int ts, .int tp, .int tl])), (1, .inl (0, 100, .inl tb))]) [] rfl trivial ?_
  refine Ti_ne qX7_takes 2 11 15 rfl rfl (fun hb1 => ?_) (fun hb1 => ?_)
  · replace hF := gneg hb1 hF
    refine Go.run qX7_takes IX7_ok 7 1 (16, [(0, .ref 0), (1, .int c)], [.int 0], [(0, .inr (7, [.ref 1, .int ts, .int tp, .int tl])), (1, .inl (0, 100, .inl tb))]) [] rfl trivial ?_
    obtain rfl := Option.some.inj hF
    exact Tr_z qX7_takes 8 rfl rfl (by decide) ⟨rfl, rfl⟩
  · replace hF := gpos hb1 hF
    refine Go.run qX7_takes IX7_ok 3 1 (8, [(0, .ref 0), (1, .int c)], [.ref 0], [(0, .inr (7, [.ref 1, .int ts, .int tp, .int tl])), (1, .inl (0, 100, .inl tb))]) [] rfl trivial ?_
    obtain ⟨r2, h3, hF⟩ := gbind hF
    refine Tk_v0 qX7_takes 4 rfl (c_X7_next ts tp tl tb r2 h3) kX7_29_7 0 rfl rfl [0, 1] rfl rfl rfl rfl ⟨rfl, rfl, by decide, by decide⟩ [] rfl (Nat.le_of_ble_eq_true rfl) [.int r2.1] rfl [(0, .inr (7, [.ref 1, .int ts, .int r2.2, .int tl])), (1, .inl (0, 100, .inl tb))] rfl ?_
    refine Go.run qX7_takes IX7_ok 5 1 (12, [(0, .ref 0), (1, .int c)], [.int c, .int r2.1], [(0, .inr (7, [.ref 1, .int ts, .int r2.2, .int tl])), (1, .inl (0, 100, .inl tb))]) [] rfl trivial ?_
    refine Tc_eq qX7_takes 6 5 17 rfl rfl (fun hb4 => ?_) (fun hb4 => ?_)
    · replace hF := gpos hb4 hF
      refine Go.run qX7_takes IX7_ok 9 7 (28, [(0, .ref 0), (1, .int c)], [.int 1], [(0, .inr (7, [.ref 1, .int ts, .int (r2.2 + 1), .int tl])), (1, .inl (0, 100, .inl tb))]) [] rfl trivial ?_
      obtain rfl := Option.some.inj hF
      exact Tr_z qX7_takes 16 rfl rfl (by decide) ⟨rfl, rfl⟩
    · replace hF := gneg hb4 hF
      refine Go.run qX7_takes IX7_ok 7 1 (16, [(0, .ref 0), (1, .int c)], [.int 0], [(0, .inr (7, [.ref 1, .int ts, .int r2.2, .int tl])), (1, .inl (0, 100, .inl tb))]) [] rfl trivial ?_
      obtain rfl := Option.some.inj hF
      exact Tr_z qX7_takes 8 rfl rfl (by decide) ⟨rfl, rfl⟩
def R_X7_needs : Room := { frames := 2, cells := 0, slots := 0, locals := 41 }
noncomputable def F_X7_needs (ts : Int32) (tp : Int32) (tl : Int32) (tb : Nat → Int32) (c : Int32) : Option (Int32 × Int32) :=
  (F_X7_takes ts tp tl tb c).bind fun r1 => if r1.1 = 0 then ((F_X7_failAt tl r1.2).bind fun r4 => some (r1.2, r4)) else (some (r1.2, tl))
set_option maxRecDepth 100000 in
set_option maxHeartbeats 4000000 in
theorem c_X7_needs (ts : Int32) (tp : Int32) (tl : Int32) (tb : Nat → Int32) (c : Int32) (rr : Int32 × Int32) (hF : F_X7_needs ts tp tl tb c = some rr) : Cd mX7_needs R_X7_needs [.ref 0, .int c] [(0, .inr (7, [.ref 1, .int ts, .int tp, .int tl])), (1, .inl (0, 100, .inl tb))] (none) [(0, .inr (7, [.ref 1, .int ts, .int rr.1, .int rr.2])), (1, .inl (0, 100, .inl tb))] := by
  unfold F_X7_needs at hF
  refine Ct.of rfl (Nat.le_of_ble_eq_true rfl) ?_
  refine Go.run qX7_needs IX7_ok 0 2 (2, [(0, .ref 0), (1, .int c)], [.int c, .ref 0], [(0, .inr (7, [.ref 1, .int ts, .int tp, .int tl])), (1, .inl (0, 100, .inl tb))]) [] rfl trivial ?_
  obtain ⟨r1, h2, hF⟩ := gbind hF
  refine Tk_v0 qX7_needs 2 rfl (c_X7_takes ts tp tl tb c r1 h2) kX7_37_7 0 rfl rfl [0, 1] rfl rfl rfl rfl ⟨rfl, rfl, by decide, by decide⟩ [] rfl (Nat.le_of_ble_eq_true rfl) [.int r1.1] rfl [(0, .inr (7, [.ref 1, .int ts, .int r1.2, .int tl])), (1, .inl (0, 100, .inl tb))] rfl ?_
  refine Ti_ne qX7_needs 3 11 16 rfl rfl (fun hb3 => ?_) (fun hb3 => ?_)
  · replace hF := gneg hb3 hF
    obtain rfl := Option.some.inj hF
    exact Tr_v qX7_needs 8 rfl rfl ⟨rfl, rfl⟩
  · replace hF := gpos hb3 hF
    refine Go.run qX7_needs IX7_ok 4 3 (13, [(0, .ref 0), (1, .int c)], [.int r1.2, .ref 0], [(0, .inr (7, [.ref 1, .int ts, .int r1.2, .int tl])), (1, .inl (0, 100, .inl tb))]) [] rfl trivial ?_
    obtain ⟨r4, h5, hF⟩ := gbind hF
    refine Tk_v0 qX7_needs 7 rfl (c_X7_failAt ts r1.2 tl r1.2 r4 h5) kX7_33_7 0 rfl rfl [0] rfl rfl rfl rfl ⟨rfl, rfl, by decide, by decide⟩ [] rfl (Nat.le_of_ble_eq_true rfl) [] rfl [(0, .inr (7, [.ref 1, .int ts, .int r1.2, .int r4])), (1, .inl (0, 100, .inl tb))] rfl ?_
    obtain rfl := Option.some.inj hF
    exact Tr_v qX7_needs 8 rfl rfl ⟨rfl, rfl⟩
def R_X7_readDigit : Room := { frames := 1, cells := 0, slots := 0, locals := 21 }
noncomputable def F_X7_readDigit (ts : Int32) (tp : Int32) (tl : Int32) (tb : Nat → Int32) (most : Int32) : Option (Int32 × Int32 × Int32) :=
  if tl = 0 then ((F_X7_next ts tp tb).bind fun r4 => if (r4.1 - 48) < 0 then ((F_X7_failAt tl r4.2).bind fun r7 => some (0, r4.2, r7)) else (if (r4.1 - 48) ≤ most then (some ((r4.1 - 48), (r4.2 + 1), tl)) else ((F_X7_failAt tl r4.2).bind fun r10 => some (0, r4.2, r10)))) else ((F_X7_failAt tl tp).bind fun r2 => some (0, tp, r2))
set_option maxRecDepth 100000 in
set_option maxHeartbeats 4000000 in
theorem c_X7_readDigit (ts : Int32) (tp : Int32) (tl : Int32) (tb : Nat → Int32) (most : Int32) (rr : Int32 × Int32 × Int32) (hF : F_X7_readDigit ts tp tl tb most = some rr) : Cd mX7_readDigit R_X7_readDigit [.ref 0, .int most] [(0, .inr (7, [.ref 1, .int ts, .int tp, .int tl])), (1, .inl (0, 100, .inl tb))] (some (.int rr.1)) [(0, .inr (7, [.ref 1, .int ts, .int rr.2.1, .int rr.2.2])), (1, .inl (0, 100, .inl tb))] := by
  unfold F_X7_readDigit at hF
  refine Ct.of rfl (Nat.le_of_ble_eq_true rfl) ?_
  refine Go.run qX7_readDigit IX7_ok 0 2 (4, [(0, .ref 0), (1, .int most)], [.int tl], [(0, .inr (7, [.ref 1, .int ts, .int tp, .int tl])), (1, .inl (0, 100, .inl tb))]) [] rfl trivial ?_
  refine Ti_ne qX7_readDigit 2 13 17 rfl rfl (fun hb1 => ?_) (fun hb1 => ?_)
  · replace hF := gneg hb1 hF
    refine Go.run qX7_readDigit IX7_ok 8 3 (20, [(2, .int (-1)), (0, .ref 0), (1, .int most)], [.int (-1)], [(0, .inr (7, [.ref 1, .int ts, .int tp, .int tl])), (1, .inl (0, 100, .inl tb))]) [] rfl trivial ?_
    refine Ti_lt qX7_readDigit 11 8 28 rfl rfl (fun _ => ?_) (fun hb => absurd (by decide) hb)
    refine Go.run qX7_readDigit IX7_ok 15 3 (33, [(2, .int (-1)), (0, .ref 0), (1, .int most)], [.int tp, .ref 0], [(0, .inr (7, [.ref 1, .int ts, .int tp, .int tl])), (1, .inl (0, 100, .inl tb))]) [] rfl trivial ?_
    obtain ⟨r2, h3, hF⟩ := gbind hF
    refine Tk_v0 qX7_readDigit 18 rfl (c_X7_failAt ts tp tl tp r2 h3) kX7_33_7 0 rfl rfl [0] rfl rfl rfl rfl ⟨rfl, rfl, by decide, by decide⟩ [] rfl (Nat.le_of_ble_eq_true rfl) [] rfl [(0, .inr (7, [.ref 1, .int ts, .int tp, .int r2])), (1, .inl (0, 100, .inl tb))] rfl ?_
    refine Go.run qX7_readDigit IX7_ok 19 1 (37, [(2, .int (-1)), (0, .ref 0), (1, .int most)], [.int 0], [(0, .inr (7, [.ref 1, .int ts, .int tp, .int r2])), (1, .inl (0, 100, .inl tb))]) [] rfl trivial ?_
    obtain rfl := Option.some.inj hF
    exact Tr_i qX7_readDigit 20 rfl rfl ⟨rfl, rfl⟩
  · replace hF := gpos hb1 hF
    refine Go.run qX7_readDigit IX7_ok 3 1 (8, [(0, .ref 0), (1, .int most)], [.ref 0], [(0, .inr (7, [.ref 1, .int ts, .int tp, .int tl])), (1, .inl (0, 100, .inl tb))]) [] rfl trivial ?_
    obtain ⟨r4, h5, hF⟩ := gbind hF
    refine Tk_v0 qX7_readDigit 4 rfl (c_X7_next ts tp tl tb r4 h5) kX7_29_7 0 rfl rfl [0, 1] rfl rfl rfl rfl ⟨rfl, rfl, by decide, by decide⟩ [] rfl (Nat.le_of_ble_eq_true rfl) [.int r4.1] rfl [(0, .inr (7, [.ref 1, .int ts, .int r4.2, .int tl])), (1, .inl (0, 100, .inl tb))] rfl ?_
    refine Go.run qX7_readDigit IX7_ok 5 3 (18, [(0, .ref 0), (1, .int most)], [.int (r4.1 - 48)], [(0, .inr (7, [.ref 1, .int ts, .int r4.2, .int tl])), (1, .inl (0, 100, .inl tb))]) [] rfl trivial ?_
    refine Go.run qX7_readDigit IX7_ok 9 2 (20, [(2, .int (r4.1 - 48)), (0, .ref 0), (1, .int most)], [.int (r4.1 - 48)], [(0, .inr (7, [.ref 1, .int ts, .int r4.2, .int tl])), (1, .inl (0, 100, .inl tb))]) [] rfl trivial ?_
    refine Ti_lt qX7_readDigit 11 8 28 rfl rfl (fun hb6 => ?_) (fun hb6 => ?_)
    · replace hF := gpos hb6 hF
      refine Go.run qX7_readDigit IX7_ok 15 3 (33, [(2, .int (r4.1 - 48)), (0, .ref 0), (1, .int most)], [.int r4.2, .ref 0], [(0, .inr (7, [.ref 1, .int ts, .int r4.2, .int tl])), (1, .inl (0, 100, .inl tb))]) [] rfl trivial ?_
      obtain ⟨r7, h8, hF⟩ := gbind hF
      refine Tk_v0 qX7_readDigit 18 rfl (c_X7_failAt ts r4.2 tl r4.2 r7 h8) kX7_33_7 0 rfl rfl [0] rfl rfl rfl rfl ⟨rfl, rfl, by decide, by decide⟩ [] rfl (Nat.le_of_ble_eq_true rfl) [] rfl [(0, .inr (7, [.ref 1, .int ts, .int r4.2, .int r7])), (1, .inl (0, 100, .inl tb))] rfl ?_
      refine Go.run qX7_readDigit IX7_ok 19 1 (37, [(2, .int (r4.1 - 48)), (0, .ref 0), (1, .int most)], [.int 0], [(0, .inr (7, [.ref 1, .int ts, .int r4.2, .int r7])), (1, .inl (0, 100, .inl tb))]) [] rfl trivial ?_
      obtain rfl := Option.some.inj hF
      exact Tr_i qX7_readDigit 20 rfl rfl ⟨rfl, rfl⟩
    · replace hF := gneg hb6 hF
      refine Go.run qX7_readDigit IX7_ok 12 2 (25, [(2, .int (r4.1 - 48)), (0, .ref 0), (1, .int most)], [.int most, .int (r4.1 - 48)], [(0, .inr (7, [.ref 1, .int ts, .int r4.2, .int tl])), (1, .inl (0, 100, .inl tb))]) [] rfl trivial ?_
      refine Tc_le qX7_readDigit 14 13 38 rfl rfl (fun hb9 => ?_) (fun hb9 => ?_)
      · replace hF := gpos hb9 hF
        refine Go.run qX7_readDigit IX7_ok 21 7 (49, [(2, .int (r4.1 - 48)), (0, .ref 0), (1, .int most)], [.int (r4.1 - 48)], [(0, .inr (7, [.ref 1, .int ts, .int (r4.2 + 1), .int tl])), (1, .inl (0, 100, .inl tb))]) [] rfl trivial ?_
        obtain rfl := Option.some.inj hF
        exact Tr_i qX7_readDigit 28 rfl rfl ⟨rfl, rfl⟩
      · replace hF := gneg hb9 hF
        refine Go.run qX7_readDigit IX7_ok 15 3 (33, [(2, .int (r4.1 - 48)), (0, .ref 0), (1, .int most)], [.int r4.2, .ref 0], [(0, .inr (7, [.ref 1, .int ts, .int r4.2, .int tl])), (1, .inl (0, 100, .inl tb))]) [] rfl trivial ?_
        obtain ⟨r10, h11, hF⟩ := gbind hF
        refine Tk_v0 qX7_readDigit 18 rfl (c_X7_failAt ts r4.2 tl r4.2 r10 h11) kX7_33_7 0 rfl rfl [0] rfl rfl rfl rfl ⟨rfl, rfl, by decide, by decide⟩ [] rfl (Nat.le_of_ble_eq_true rfl) [] rfl [(0, .inr (7, [.ref 1, .int ts, .int r4.2, .int r10])), (1, .inl (0, 100, .inl tb))] rfl ?_
        refine Go.run qX7_readDigit IX7_ok 19 1 (37, [(2, .int (r4.1 - 48)), (0, .ref 0), (1, .int most)], [.int 0], [(0, .inr (7, [.ref 1, .int ts, .int r4.2, .int r10])), (1, .inl (0, 100, .inl tb))]) [] rfl trivial ?_
        obtain rfl := Option.some.inj hF
        exact Tr_i qX7_readDigit 20 rfl rfl ⟨rfl, rfl⟩
def R_X7_readSigned : Room := { frames := 3, cells := 0, slots := 0, locals := 62 }
noncomputable def F_X7_readSigned (ts : Int32) (tp : Int32) (tl : Int32) (tb : Nat → Int32) : Option (Int32 × Int32 × Int32) :=
  (F_X7_takes ts tp tl tb 45).bind fun r1 => if r1.1 = 0 then ((F_X7_needs ts r1.2 tl tb 43).bind fun r7 => (F_X7_readDigit ts r7.1 r7.2 tb 9).bind fun r9 => if r1.1 = 0 then (some (r9.1, r9.2.1, r9.2.2)) else (some ((-r9.1), r9.2.1, r9.2.2))) else ((F_X7_readDigit ts r1.2 tl tb 9).bind fun r4 => if r1.1 = 0 then (some (r4.1, r4.2.1, r4.2.2)) else (some ((-r4.1), r4.2.1, r4.2.2)))
set_option maxRecDepth 100000 in
set_option maxHeartbeats 4000000 in
theorem c_X7_readSigned (ts : Int32) (tp : Int32) (tl : Int32) (tb : Nat → Int32) (rr : Int32 × Int32 × Int32) (hF : F_X7_readSigned ts tp tl tb = some rr) : Cd mX7_readSigned R_X7_readSigned [.ref 0] [(0, .inr (7, [.ref 1, .int ts, .int tp, .int tl])), (1, .inl (0, 100, .inl tb))] (some (.int rr.1)) [(0, .inr (7, [.ref 1, .int ts, .int rr.2.1, .int rr.2.2])), (1, .inl (0, 100, .inl tb))] := by
  unfold F_X7_readSigned at hF
  refine Ct.of rfl (Nat.le_of_ble_eq_true rfl) ?_
  refine Go.run qX7_readSigned IX7_ok 0 2 (3, [(0, .ref 0)], [.int 45, .ref 0], [(0, .inr (7, [.ref 1, .int ts, .int tp, .int tl])), (1, .inl (0, 100, .inl tb))]) [] rfl trivial ?_
  obtain ⟨r1, h2, hF⟩ := gbind hF
  refine Tk_v0 qX7_readSigned 2 rfl (c_X7_takes ts tp tl tb 45 r1 h2) kX7_37_7 0 rfl rfl [0, 1] rfl rfl rfl rfl ⟨rfl, rfl, by decide, by decide⟩ [] rfl (Nat.le_of_ble_eq_true rfl) [.int r1.1] rfl [(0, .inr (7, [.ref 1, .int ts, .int r1.2, .int tl])), (1, .inl (0, 100, .inl tb))] rfl ?_
  refine Go.run qX7_readSigned IX7_ok 3 2 (8, [(1, .int r1.1), (0, .ref 0)], [.int r1.1], [(0, .inr (7, [.ref 1, .int ts, .int r1.2, .int tl])), (1, .inl (0, 100, .inl tb))]) [] rfl trivial ?_
  refine Ti_ne qX7_readSigned 5 9 17 rfl rfl (fun hb3 => ?_) (fun hb3 => ?_)
  · replace hF := gneg hb3 hF
    refine Go.run qX7_readSigned IX7_ok 9 2 (20, [(1, .int r1.1), (0, .ref 0)], [.int 9, .ref 0], [(0, .inr (7, [.ref 1, .int ts, .int r1.2, .int tl])), (1, .inl (0, 100, .inl tb))]) [] rfl trivial ?_
    obtain ⟨r4, h5, hF⟩ := gbind hF
    refine Tk_v0 qX7_readSigned 11 rfl (c_X7_readDigit ts r1.2 tl tb 9 r4 h5) kX7_45_7 0 rfl rfl [0, 1] rfl rfl rfl rfl ⟨rfl, rfl, by decide, by decide⟩ [] rfl (Nat.le_of_ble_eq_true rfl) [.int r4.1] rfl [(0, .inr (7, [.ref 1, .int ts, .int r4.2.1, .int r4.2.2])), (1, .inl (0, 100, .inl tb))] rfl ?_
    refine Go.run qX7_readSigned IX7_ok 12 2 (25, [(2, .int r4.1), (1, .int r1.1), (0, .ref 0)], [.int r1.1], [(0, .inr (7, [.ref 1, .int ts, .int r4.2.1, .int r4.2.2])), (1, .inl (0, 100, .inl tb))]) [] rfl trivial ?_
    refine Ti_eq qX7_readSigned 14 8 33 rfl rfl (fun hb6 => ?_) (fun hb6 => ?_)
    · replace hF := gpos hb6 hF
      refine Go.run qX7_readSigned IX7_ok 18 1 (34, [(2, .int r4.1), (1, .int r1.1), (0, .ref 0)], [.int r4.1], [(0, .inr (7, [.ref 1, .int ts, .int r4.2.1, .int r4.2.2])), (1, .inl (0, 100, .inl tb))]) [] rfl trivial ?_
      obtain rfl := Option.some.inj hF
      exact Tr_i qX7_readSigned 19 rfl rfl ⟨rfl, rfl⟩
    · replace hF := gneg hb6 hF
      refine Go.run qX7_readSigned IX7_ok 15 3 (34, [(2, .int r4.1), (1, .int r1.1), (0, .ref 0)], [.int (-r4.1)], [(0, .inr (7, [.ref 1, .int ts, .int r4.2.1, .int r4.2.2])), (1, .inl (0, 100, .inl tb))]) [] rfl trivial ?_
      obtain rfl := Option.some.inj hF
      exact Tr_i qX7_readSigned 19 rfl rfl ⟨rfl, rfl⟩
  · replace hF := gpos hb3 hF
    refine Go.run qX7_readSigned IX7_ok 6 2 (14, [(1, .int r1.1), (0, .ref 0)], [.int 43, .ref 0], [(0, .inr (7, [.ref 1, .int ts, .int r1.2, .int tl])), (1, .inl (0, 100, .inl tb))]) [] rfl trivial ?_
    obtain ⟨r7, h8, hF⟩ := gbind hF
    refine Tk_v0 qX7_readSigned 8 rfl (c_X7_needs ts r1.2 tl tb 43 r7 h8) kX7_41_7 0 rfl rfl [0, 1] rfl rfl rfl rfl ⟨rfl, rfl, by decide, by decide⟩ [] rfl (Nat.le_of_ble_eq_true rfl) [] rfl [(0, .inr (7, [.ref 1, .int ts, .int r7.1, .int r7.2])), (1, .inl (0, 100, .inl tb))] rfl ?_
    refine Go.run qX7_readSigned IX7_ok 9 2 (20, [(1, .int r1.1), (0, .ref 0)], [.int 9, .ref 0], [(0, .inr (7, [.ref 1, .int ts, .int r7.1, .int r7.2])), (1, .inl (0, 100, .inl tb))]) [] rfl trivial ?_
    obtain ⟨r9, h10, hF⟩ := gbind hF
    refine Tk_v0 qX7_readSigned 11 rfl (c_X7_readDigit ts r7.1 r7.2 tb 9 r9 h10) kX7_45_7 0 rfl rfl [0, 1] rfl rfl rfl rfl ⟨rfl, rfl, by decide, by decide⟩ [] rfl (Nat.le_of_ble_eq_true rfl) [.int r9.1] rfl [(0, .inr (7, [.ref 1, .int ts, .int r9.2.1, .int r9.2.2])), (1, .inl (0, 100, .inl tb))] rfl ?_
    refine Go.run qX7_readSigned IX7_ok 12 2 (25, [(2, .int r9.1), (1, .int r1.1), (0, .ref 0)], [.int r1.1], [(0, .inr (7, [.ref 1, .int ts, .int r9.2.1, .int r9.2.2])), (1, .inl (0, 100, .inl tb))]) [] rfl trivial ?_
    refine Ti_eq qX7_readSigned 14 8 33 rfl rfl (fun hb11 => ?_) (fun hb11 => ?_)
    · replace hF := gpos hb11 hF
      refine Go.run qX7_readSigned IX7_ok 18 1 (34, [(2, .int r9.1), (1, .int r1.1), (0, .ref 0)], [.int r9.1], [(0, .inr (7, [.ref 1, .int ts, .int r9.2.1, .int r9.2.2])), (1, .inl (0, 100, .inl tb))]) [] rfl trivial ?_
      obtain rfl := Option.some.inj hF
      exact Tr_i qX7_readSigned 19 rfl rfl ⟨rfl, rfl⟩
    · replace hF := gneg hb11 hF
      refine Go.run qX7_readSigned IX7_ok 15 3 (34, [(2, .int r9.1), (1, .int r1.1), (0, .ref 0)], [.int (-r9.1)], [(0, .inr (7, [.ref 1, .int ts, .int r9.2.1, .int r9.2.2])), (1, .inl (0, 100, .inl tb))]) [] rfl trivial ?_
      obtain rfl := Option.some.inj hF
      exact Tr_i qX7_readSigned 19 rfl rfl ⟨rfl, rfl⟩
def R_X7_readNumber : Room := { frames := 2, cells := 0, slots := 0, locals := 43 }
noncomputable def FL_X7_readNumber_14 (ts : Int32) (tb : Nat → Int32) (f0_3_14 : Int32) (kk84 : Int32 → Int32 → Option (Int32 × Int32 × Int32)) : Nat → Int32 → Int32 → Option (Int32 × Int32 × Int32)
  | 0, _, _ => none
  | fu + 1, l2_14, w0_2_14 => if f0_3_14 = 0 then (if ts ≤ w0_2_14 then (kk84 l2_14 w0_2_14) else (if gvp w0_2_14 100 then ((F_X7_isDigit (tb w0_2_14.toNatClampNeg)).bind fun r1144 => if r1144 = 0 then (kk84 l2_14 w0_2_14) else (if gvp w0_2_14 100 then (FL_X7_readNumber_14 ts tb f0_3_14 kk84 fu (gmin (((10 * l2_14) + (tb w0_2_14.toNatClampNeg)) - 48) 1000) (w0_2_14 + 1)) else none)) else none)) else (kk84 l2_14 w0_2_14)
noncomputable def F_X7_readNumber (ts : Int32) (tp : Int32) (tl : Int32) (tb : Nat → Int32) (most : Int32) : Option (Int32 × Int32 × Int32) :=
  (F_X7_readDigit ts tp tl tb 9).bind fun r1 => FL_X7_readNumber_14 ts tb r1.2.2 (fun l2_14 w0_2_14 => if l2_14 ≤ most then (some (l2_14, w0_2_14, r1.2.2)) else ((F_X7_failAt r1.2.2 (r1.2.1 - 1)).bind fun r4 => some (l2_14, w0_2_14, r4))) gN0 r1.1 r1.2.1
set_option maxRecDepth 100000 in
set_option maxHeartbeats 4000000 in
theorem t_X7_readNumber_14 (ts : Int32) (tp : Int32) (tl : Int32) (tb : Nat → Int32) (most : Int32) (p3_14 : Int32) (f0_3_14 : Int32) (kk84 : Int32 → Int32 → Option (Int32 × Int32 × Int32)) (rr : Int32 × Int32 × Int32)  (hk84 : ∀ (l2_14 : Int32) (w0_2_14 : Int32), kk84 l2_14 w0_2_14 = some rr → Go mX7_readNumber R_X7_readNumber (gRet mX7_readNumber (fun r0 w0 => r0 = some (.int rr.1) ∧ w0 = [(0, .inr (7, [.ref 1, .int ts, .int rr.2.1, .int rr.2.2])), (1, .inl (0, 100, .inl tb))])) (84, [(0, .ref 0), (1, .int most), (2, .int l2_14), (3, .int p3_14)], [], [(0, .inr (7, [.ref 1, .int ts, .int w0_2_14, .int f0_3_14])), (1, .inl (0, 100, .inl tb))])) : ∀ (fu : Nat) (l2_14 : Int32) (w0_2_14 : Int32), FL_X7_readNumber_14 ts tb f0_3_14 kk84 fu l2_14 w0_2_14 = some rr → Go mX7_readNumber R_X7_readNumber (gRet mX7_readNumber (fun r0 w0 => r0 = some (.int rr.1) ∧ w0 = [(0, .inr (7, [.ref 1, .int ts, .int rr.2.1, .int rr.2.2])), (1, .inl (0, 100, .inl tb))])) (14, [(0, .ref 0), (1, .int most), (2, .int l2_14), (3, .int p3_14)], [], [(0, .inr (7, [.ref 1, .int ts, .int w0_2_14, .int f0_3_14])), (1, .inl (0, 100, .inl tb))]) := by
  intro fu
  induction fu with
  | zero =>
    intro l2_14 w0_2_14 hF
    cases hF
  | succ fu ih =>
    intro l2_14 w0_2_14 hF
    unfold FL_X7_readNumber_14 at hF
    refine Go.run qX7_readNumber IX7_ok 9 2 (18, [(0, .ref 0), (1, .int most), (2, .int l2_14), (3, .int p3_14)], [.int f0_3_14], [(0, .inr (7, [.ref 1, .int ts, .int w0_2_14, .int f0_3_14])), (1, .inl (0, 100, .inl tb))]) [] rfl trivial ?_
    refine Ti_ne qX7_readNumber 11 66 84 rfl rfl (fun hb1141 => ?_) (fun hb1141 => ?_)
    · replace hF := gneg hb1141 hF
      exact hk84 l2_14 w0_2_14 hF
    · replace hF := gpos hb1141 hF
      refine Go.run qX7_readNumber IX7_ok 12 4 (29, [(0, .ref 0), (1, .int most), (2, .int l2_14), (3, .int p3_14)], [.int ts, .int w0_2_14], [(0, .inr (7, [.ref 1, .int ts, .int w0_2_14, .int f0_3_14])), (1, .inl (0, 100, .inl tb))]) [] rfl trivial ?_
      refine Tc_ge qX7_readNumber 16 55 84 rfl rfl (fun hb1142 => ?_) (fun hb1142 => ?_)
      · replace hF := gpos hb1142 hF
        exact hk84 l2_14 w0_2_14 hF
      · replace hF := gneg hb1142 hF
        obtain ⟨hc1143, hF⟩ := gif hF
        refine Go.run qX7_readNumber IX7_ok 17 5 (41, [(0, .ref 0), (1, .int most), (2, .int l2_14), (3, .int p3_14)], [.int (tb w0_2_14.toNatClampNeg)], [(0, .inr (7, [.ref 1, .int ts, .int w0_2_14, .int f0_3_14])), (1, .inl (0, 100, .inl tb))]) [gvp w0_2_14 100] rfl ⟨hc1143, trivial⟩ ?_
        obtain ⟨r1144, h1145, hF⟩ := gbind hF
        refine Tk_s qX7_readNumber 22 rfl (c_X7_isDigit (tb w0_2_14.toNatClampNeg) r1144 h1145) kX7_49 (gr []) [] rfl rfl rfl rfl ⟨rfl, rfl, by decide, by decide⟩ [] rfl (Nat.le_of_ble_eq_true rfl) [.int r1144] rfl [(0, .inr (7, [.ref 1, .int ts, .int w0_2_14, .int f0_3_14])), (1, .inl (0, 100, .inl tb))] rfl ?_
        refine Ti_eq qX7_readNumber 23 40 84 rfl rfl (fun hb1146 => ?_) (fun hb1146 => ?_)
        · replace hF := gpos hb1146 hF
          exact hk84 l2_14 w0_2_14 hF
        · replace hF := gneg hb1146 hF
          obtain ⟨hc1147, hF⟩ := gif hF
          refine Go.run qX7_readNumber IX7_ok 24 12 (67, [(0, .ref 0), (1, .int most), (2, .int l2_14), (3, .int p3_14)], [.int 1000, .int (((10 * l2_14) + (tb w0_2_14.toNatClampNeg)) - 48)], [(0, .inr (7, [.ref 1, .int ts, .int w0_2_14, .int f0_3_14])), (1, .inl (0, 100, .inl tb))]) [gvp w0_2_14 100] rfl ⟨hc1147, trivial⟩ ?_
          refine Tx_min qX7_readNumber 36 rfl kcX7_53 (by decide) (by decide) (Nat.le_of_ble_eq_true rfl) ?_
          refine Go.run qX7_readNumber IX7_ok 37 8 (14, [(2, .int (gmin (((10 * l2_14) + (tb w0_2_14.toNatClampNeg)) - 48) 1000)), (0, .ref 0), (1, .int most), (3, .int p3_14)], [], [(0, .inr (7, [.ref 1, .int ts, .int (w0_2_14 + 1), .int f0_3_14])), (1, .inl (0, 100, .inl tb))]) [] rfl trivial ?_
          refine Go.loc [1, 2, 0, 3] rfl ?_
          exact ih (gmin (((10 * l2_14) + (tb w0_2_14.toNatClampNeg)) - 48) 1000) (w0_2_14 + 1) hF
set_option maxRecDepth 100000 in
set_option maxHeartbeats 4000000 in
theorem c_X7_readNumber (ts : Int32) (tp : Int32) (tl : Int32) (tb : Nat → Int32) (most : Int32) (rr : Int32 × Int32 × Int32) (hF : F_X7_readNumber ts tp tl tb most = some rr) : Cd mX7_readNumber R_X7_readNumber [.ref 0, .int most] [(0, .inr (7, [.ref 1, .int ts, .int tp, .int tl])), (1, .inl (0, 100, .inl tb))] (some (.int rr.1)) [(0, .inr (7, [.ref 1, .int ts, .int rr.2.1, .int rr.2.2])), (1, .inl (0, 100, .inl tb))] := by
  unfold F_X7_readNumber at hF
  refine Ct.of rfl (Nat.le_of_ble_eq_true rfl) ?_
  refine Go.run qX7_readNumber IX7_ok 0 2 (3, [(0, .ref 0), (1, .int most)], [.int 9, .ref 0], [(0, .inr (7, [.ref 1, .int ts, .int tp, .int tl])), (1, .inl (0, 100, .inl tb))]) [] rfl trivial ?_
  obtain ⟨r1, h2, hF⟩ := gbind hF
  refine Tk_v0 qX7_readNumber 2 rfl (c_X7_readDigit ts tp tl tb 9 r1 h2) kX7_45_7 0 rfl rfl [0, 1] rfl rfl rfl rfl ⟨rfl, rfl, by decide, by decide⟩ [] rfl (Nat.le_of_ble_eq_true rfl) [.int r1.1] rfl [(0, .inr (7, [.ref 1, .int ts, .int r1.2.1, .int r1.2.2])), (1, .inl (0, 100, .inl tb))] rfl ?_
  refine Go.run qX7_readNumber IX7_ok 3 6 (14, [(3, .int (r1.2.1 - 1)), (2, .int r1.1), (0, .ref 0), (1, .int most)], [], [(0, .inr (7, [.ref 1, .int ts, .int r1.2.1, .int r1.2.2])), (1, .inl (0, 100, .inl tb))]) [] rfl trivial ?_
  refine Go.loc [2, 3, 1, 0] rfl ?_
  refine t_X7_readNumber_14 ts tp tl tb most (r1.2.1 - 1) r1.2.2 _ rr (fun l2_14 w0_2_14 hF => ?_) gN0 r1.1 r1.2.1 hF
  refine Go.run qX7_readNumber IX7_ok 45 2 (86, [(0, .ref 0), (1, .int most), (2, .int l2_14), (3, .int (r1.2.1 - 1))], [.int most, .int l2_14], [(0, .inr (7, [.ref 1, .int ts, .int w0_2_14, .int r1.2.2])), (1, .inl (0, 100, .inl tb))]) [] rfl trivial ?_
  refine Tc_le qX7_readNumber 47 8 94 rfl rfl (fun hb3 => ?_) (fun hb3 => ?_)
  · replace hF := gpos hb3 hF
    refine Go.run qX7_readNumber IX7_ok 51 1 (95, [(0, .ref 0), (1, .int most), (2, .int l2_14), (3, .int (r1.2.1 - 1))], [.int l2_14], [(0, .inr (7, [.ref 1, .int ts, .int w0_2_14, .int r1.2.2])), (1, .inl (0, 100, .inl tb))]) [] rfl trivial ?_
    obtain rfl := Option.some.inj hF
    exact Tr_i qX7_readNumber 52 rfl rfl ⟨rfl, rfl⟩
  · replace hF := gneg hb3 hF
    refine Go.run qX7_readNumber IX7_ok 48 2 (91, [(0, .ref 0), (1, .int most), (2, .int l2_14), (3, .int (r1.2.1 - 1))], [.int (r1.2.1 - 1), .ref 0], [(0, .inr (7, [.ref 1, .int ts, .int w0_2_14, .int r1.2.2])), (1, .inl (0, 100, .inl tb))]) [] rfl trivial ?_
    obtain ⟨r4, h5, hF⟩ := gbind hF
    refine Tk_v0 qX7_readNumber 50 rfl (c_X7_failAt ts w0_2_14 r1.2.2 (r1.2.1 - 1) r4 h5) kX7_33_7 0 rfl rfl [0] rfl rfl rfl rfl ⟨rfl, rfl, by decide, by decide⟩ [] rfl (Nat.le_of_ble_eq_true rfl) [] rfl [(0, .inr (7, [.ref 1, .int ts, .int w0_2_14, .int r4])), (1, .inl (0, 100, .inl tb))] rfl ?_
    refine Go.run qX7_readNumber IX7_ok 51 1 (95, [(0, .ref 0), (1, .int most), (2, .int l2_14), (3, .int (r1.2.1 - 1))], [.int l2_14], [(0, .inr (7, [.ref 1, .int ts, .int w0_2_14, .int r4])), (1, .inl (0, 100, .inl tb))]) [] rfl trivial ?_
    obtain rfl := Option.some.inj hF
    exact Tr_i qX7_readNumber 52 rfl rfl ⟨rfl, rfl⟩
