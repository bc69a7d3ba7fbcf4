/-! Written by wip/gen/spec.py: part 10.rows. -/
def R_X4_size__4 : Room := { frames := 0, cells := 0, slots := 0, locals := 0 }
noncomputable def F_X4_size (sz : Int32) : Option Int32 :=
  some sz
set_option maxRecDepth 100000 in
set_option maxHeartbeats 4000000 in
theorem c_X4_size__4 (wd : Int32) (mo : Int32) (sz : Int32) (rr : Int32) (hF : F_X4_size sz = some rr) : Cd mX4_size R_X4_size__4 [.ref 0] [(0, .inr (4, [.int wd, .int mo, .ref 1, .int sz]))] (some (.int rr)) [(0, .inr (4, [.int wd, .int mo, .ref 1, .int sz]))] := by
  unfold F_X4_size at hF
  refine Ct.of rfl (Nat.le_of_ble_eq_true rfl) ?_
  refine Go.run qX4_size IX4_ok 0 2 (4, [(0, .ref 0)], [.int sz], [(0, .inr (4, [.int wd, .int mo, .ref 1, .int sz]))]) [] rfl trivial ?_
  obtain rfl := Option.some.inj hF
  exact Tr_i qX4_size 2 rfl rfl ⟨rfl, rfl⟩
def R_X4_has__4 : Room := { frames := 0, cells := 0, slots := 0, locals := 0 }
noncomputable def F_X4_has (sz : Int32) (row : Int32) : Option Int32 :=
  if row < 0 then (some 0) else (if sz ≤ row then (some 0) else (some 1))
set_option maxRecDepth 100000 in
set_option maxHeartbeats 4000000 in
theorem c_X4_has__4 (wd : Int32) (mo : Int32) (sz : Int32) (row : Int32) (rr : Int32) (hF : F_X4_has sz row = some rr) : Cd mX4_has R_X4_has__4 [.ref 0, .int row] [(0, .inr (4, [.int wd, .int mo, .ref 1, .int sz]))] (some (.int rr)) [(0, .inr (4, [.int wd, .int mo, .ref 1, .int sz]))] := by
  unfold F_X4_has at hF
  refine Ct.of rfl (Nat.le_of_ble_eq_true rfl) ?_
  refine Go.run qX4_has IX4_ok 0 1 (1, [(0, .ref 0), (1, .int row)], [.int row], [(0, .inr (4, [.int wd, .int mo, .ref 1, .int sz]))]) [] rfl trivial ?_
  refine Ti_lt qX4_has 1 15 16 rfl rfl (fun hb1 => ?_) (fun hb1 => ?_)
  · replace hF := gpos hb1 hF
    refine Go.run qX4_has IX4_ok 8 1 (17, [(0, .ref 0), (1, .int row)], [.int 0], [(0, .inr (4, [.int wd, .int mo, .ref 1, .int sz]))]) [] rfl trivial ?_
    obtain rfl := Option.some.inj hF
    exact Tr_z qX4_has 9 rfl rfl (by decide) ⟨rfl, rfl⟩
  · replace hF := gneg hb1 hF
    refine Go.run qX4_has IX4_ok 2 3 (9, [(0, .ref 0), (1, .int row)], [.int sz, .int row], [(0, .inr (4, [.int wd, .int mo, .ref 1, .int sz]))]) [] rfl trivial ?_
    refine Tc_ge qX4_has 5 7 16 rfl rfl (fun hb2 => ?_) (fun hb2 => ?_)
    · replace hF := gpos hb2 hF
      refine Go.run qX4_has IX4_ok 8 1 (17, [(0, .ref 0), (1, .int row)], [.int 0], [(0, .inr (4, [.int wd, .int mo, .ref 1, .int sz]))]) [] rfl trivial ?_
      obtain rfl := Option.some.inj hF
      exact Tr_z qX4_has 9 rfl rfl (by decide) ⟨rfl, rfl⟩
    · replace hF := gneg hb2 hF
      refine Go.run qX4_has IX4_ok 6 2 (17, [(0, .ref 0), (1, .int row)], [.int 1], [(0, .inr (4, [.int wd, .int mo, .ref 1, .int sz]))]) [] rfl trivial ?_
      obtain rfl := Option.some.inj hF
      exact Tr_z qX4_has 9 rfl rfl (by decide) ⟨rfl, rfl⟩
def R_X4_open__4 : Room := { frames := 0, cells := 0, slots := 0, locals := 0 }
noncomputable def FL_X4_open_15 (wd : Int32) (sz : Int32) (n : Nat) (kk46 : Int32 → (Nat → Int32) → Option (Int32 × Int32 × (Nat → Int32))) : Nat → Int32 → (Nat → Int32) → Option (Int32 × Int32 × (Nat → Int32))
  | 0, _, _ => none
  | fu + 1, l1_15, a1_15 => if wd ≤ l1_15 then (kk46 l1_15 a1_15) else (if gvp ((sz * wd) + l1_15) n then (FL_X4_open_15 wd sz n kk46 fu (l1_15 + 1) (upd a1_15 ((sz * wd) + l1_15).toNatClampNeg 0)) else none)
noncomputable def F_X4_open (wd : Int32) (mo : Int32) (sz : Int32) (n : Nat) (f : Nat → Int32) : Option (Int32 × Int32 × (Nat → Int32)) :=
  if sz < mo then (FL_X4_open_15 wd sz n (fun l1_15 a1_15 => some (((sz + 1) - 1), (sz + 1), a1_15)) gN0 0 f) else (some ((-1), sz, f))
set_option maxRecDepth 100000 in
set_option maxHeartbeats 4000000 in
theorem t_X4_open_15__4 (wd : Int32) (mo : Int32) (sz : Int32) (n : Nat) (f : Nat → Int32) (kk46 : Int32 → (Nat → Int32) → Option (Int32 × Int32 × (Nat → Int32))) (rr : Int32 × Int32 × (Nat → Int32))  (hk46 : ∀ (l1_15 : Int32) (a1_15 : Nat → Int32), kk46 l1_15 a1_15 = some rr → Go mX4_open R_X4_open__4 (gRet mX4_open (fun r0 w0 => r0 = some (.int rr.1) ∧ w0 = [(0, .inr (4, [.int wd, .int mo, .ref 1, .int rr.2.1])), (1, .inl (0, n, .inl rr.2.2))])) (46, [(0, .ref 0), (1, .int l1_15)], [], [(0, .inr (4, [.int wd, .int mo, .ref 1, .int sz])), (1, .inl (0, n, .inl a1_15))])) : ∀ (fu : Nat) (l1_15 : Int32) (a1_15 : Nat → Int32), FL_X4_open_15 wd sz n kk46 fu l1_15 a1_15 = some rr → Go mX4_open R_X4_open__4 (gRet mX4_open (fun r0 w0 => r0 = some (.int rr.1) ∧ w0 = [(0, .inr (4, [.int wd, .int mo, .ref 1, .int rr.2.1])), (1, .inl (0, n, .inl rr.2.2))])) (15, [(0, .ref 0), (1, .int l1_15)], [], [(0, .inr (4, [.int wd, .int mo, .ref 1, .int sz])), (1, .inl (0, n, .inl a1_15))]) := by
  intro fu
  induction fu with
  | zero =>
    intro l1_15 a1_15 hF
    cases hF
  | succ fu ih =>
    intro l1_15 a1_15 hF
    unfold FL_X4_open_15 at hF
    refine Go.run qX4_open IX4_ok 9 3 (20, [(0, .ref 0), (1, .int l1_15)], [.int wd, .int l1_15], [(0, .inr (4, [.int wd, .int mo, .ref 1, .int sz])), (1, .inl (0, n, .inl a1_15))]) [] rfl trivial ?_
    refine Tc_ge qX4_open 12 26 46 rfl rfl (fun hb1151 => ?_) (fun hb1151 => ?_)
    · replace hF := gpos hb1151 hF
      exact hk46 l1_15 a1_15 hF
    · replace hF := gneg hb1151 hF
      obtain ⟨hc1152, hF⟩ := gif hF
      refine Go.run qX4_open IX4_ok 13 13 (15, [(1, .int (l1_15 + 1)), (0, .ref 0)], [], [(0, .inr (4, [.int wd, .int mo, .ref 1, .int sz])), (1, .inl (0, n, .inl (upd a1_15 ((sz * wd) + l1_15).toNatClampNeg 0)))]) [gvp ((sz * wd) + l1_15) n] rfl ⟨hc1152, trivial⟩ ?_
      refine Go.loc [1, 0] rfl ?_
      exact ih (l1_15 + 1) (upd a1_15 ((sz * wd) + l1_15).toNatClampNeg 0) hF
set_option maxRecDepth 100000 in
set_option maxHeartbeats 4000000 in
theorem c_X4_open__4 (wd : Int32) (mo : Int32) (sz : Int32) (n : Nat) (f : Nat → Int32) (rr : Int32 × Int32 × (Nat → Int32)) (hF : F_X4_open wd mo sz n f = some rr) : Cd mX4_open R_X4_open__4 [.ref 0] [(0, .inr (4, [.int wd, .int mo, .ref 1, .int sz])), (1, .inl (0, n, .inl f))] (some (.int rr.1)) [(0, .inr (4, [.int wd, .int mo, .ref 1, .int rr.2.1])), (1, .inl (0, n, .inl rr.2.2))] := by
  unfold F_X4_open at hF
  refine Ct.of rfl (Nat.le_of_ble_eq_true rfl) ?_
  refine Go.run qX4_open IX4_ok 0 4 (8, [(0, .ref 0)], [.int mo, .int sz], [(0, .inr (4, [.int wd, .int mo, .ref 1, .int sz])), (1, .inl (0, n, .inl f))]) [] rfl trivial ?_
  refine Tc_lt qX4_open 4 5 13 rfl rfl (fun hb1 => ?_) (fun hb1 => ?_)
  · replace hF := gpos hb1 hF
    refine Go.run qX4_open IX4_ok 7 2 (15, [(1, .int 0), (0, .ref 0)], [], [(0, .inr (4, [.int wd, .int mo, .ref 1, .int sz])), (1, .inl (0, n, .inl f))]) [] rfl trivial ?_
    refine Go.loc [1, 0] rfl ?_
    refine t_X4_open_15__4 wd mo sz n f _ rr (fun l1_15 a1_15 hF => ?_) gN0 0 f hF
    refine Go.run qX4_open IX4_ok 26 10 (62, [(0, .ref 0), (1, .int l1_15)], [.int ((sz + 1) - 1)], [(0, .inr (4, [.int wd, .int mo, .ref 1, .int (sz + 1)])), (1, .inl (0, n, .inl a1_15))]) [] rfl trivial ?_
    obtain rfl := Option.some.inj hF
    exact Tr_i qX4_open 36 rfl rfl ⟨rfl, rfl⟩
  · replace hF := gneg hb1 hF
    refine Go.run qX4_open IX4_ok 5 1 (12, [(0, .ref 0)], [.int (-1)], [(0, .inr (4, [.int wd, .int mo, .ref 1, .int sz])), (1, .inl (0, n, .inl f))]) [] rfl trivial ?_
    obtain rfl := Option.some.inj hF
    exact Tr_i qX4_open 6 rfl rfl ⟨rfl, rfl⟩
def R_X4_get__4 : Room := { frames := 0, cells := 0, slots := 0, locals := 0 }
noncomputable def F_X4_get (wd : Int32) (sz : Int32) (n : Nat) (f : Nat → Int32) (row : Int32) (col : Int32) : Option Int32 :=
  if row < 0 then (some 0) else (if sz ≤ row then (some 0) else (if col < 0 then (some 0) else (if wd ≤ col then (some 0) else (if gvp ((row * wd) + col) n then (some (f ((row * wd) + col).toNatClampNeg)) else none))))
set_option maxRecDepth 100000 in
set_option maxHeartbeats 4000000 in
theorem c_X4_get__4 (wd : Int32) (mo : Int32) (sz : Int32) (n : Nat) (f : Nat → Int32) (row : Int32) (col : Int32) (rr : Int32) (hF : F_X4_get wd sz n f row col = some rr) : Cd mX4_get R_X4_get__4 [.ref 0, .int row, .int col] [(0, .inr (4, [.int wd, .int mo, .ref 1, .int sz])), (1, .inl (0, n, .inl f))] (some (.int rr)) [(0, .inr (4, [.int wd, .int mo, .ref 1, .int sz])), (1, .inl (0, n, .inl f))] := by
  unfold F_X4_get at hF
  refine Ct.of rfl (Nat.le_of_ble_eq_true rfl) ?_
  refine Go.run qX4_get IX4_ok 0 1 (1, [(0, .ref 0), (1, .int row), (2, .int col)], [.int row], [(0, .inr (4, [.int wd, .int mo, .ref 1, .int sz])), (1, .inl (0, n, .inl f))]) [] rfl trivial ?_
  refine Ti_lt qX4_get 1 27 28 rfl rfl (fun hb1 => ?_) (fun hb1 => ?_)
  · replace hF := gpos hb1 hF
    refine Go.run qX4_get IX4_ok 14 3 (31, [(3, .int 0), (0, .ref 0), (1, .int row), (2, .int col)], [.int 0], [(0, .inr (4, [.int wd, .int mo, .ref 1, .int sz])), (1, .inl (0, n, .inl f))]) [] rfl trivial ?_
    refine Ti_eq qX4_get 17 19 50 rfl rfl (fun _ => ?_) (fun hb => absurd (by decide) hb)
    refine Go.run qX4_get IX4_ok 28 1 (51, [(3, .int 0), (0, .ref 0), (1, .int row), (2, .int col)], [.int 0], [(0, .inr (4, [.int wd, .int mo, .ref 1, .int sz])), (1, .inl (0, n, .inl f))]) [] rfl trivial ?_
    obtain rfl := Option.some.inj hF
    exact Tr_i qX4_get 29 rfl rfl ⟨rfl, rfl⟩
  · replace hF := gneg hb1 hF
    refine Go.run qX4_get IX4_ok 2 3 (9, [(0, .ref 0), (1, .int row), (2, .int col)], [.int sz, .int row], [(0, .inr (4, [.int wd, .int mo, .ref 1, .int sz])), (1, .inl (0, n, .inl f))]) [] rfl trivial ?_
    refine Tc_ge qX4_get 5 19 28 rfl rfl (fun hb2 => ?_) (fun hb2 => ?_)
    · replace hF := gpos hb2 hF
      refine Go.run qX4_get IX4_ok 14 3 (31, [(3, .int 0), (0, .ref 0), (1, .int row), (2, .int col)], [.int 0], [(0, .inr (4, [.int wd, .int mo, .ref 1, .int sz])), (1, .inl (0, n, .inl f))]) [] rfl trivial ?_
      refine Ti_eq qX4_get 17 19 50 rfl rfl (fun _ => ?_) (fun hb => absurd (by decide) hb)
      refine Go.run qX4_get IX4_ok 28 1 (51, [(3, .int 0), (0, .ref 0), (1, .int row), (2, .int col)], [.int 0], [(0, .inr (4, [.int wd, .int mo, .ref 1, .int sz])), (1, .inl (0, n, .inl f))]) [] rfl trivial ?_
      obtain rfl := Option.some.inj hF
      exact Tr_i qX4_get 29 rfl rfl ⟨rfl, rfl⟩
    · replace hF := gneg hb2 hF
      refine Go.run qX4_get IX4_ok 6 1 (13, [(0, .ref 0), (1, .int row), (2, .int col)], [.int col], [(0, .inr (4, [.int wd, .int mo, .ref 1, .int sz])), (1, .inl (0, n, .inl f))]) [] rfl trivial ?_
      refine Ti_lt qX4_get 7 15 28 rfl rfl (fun hb3 => ?_) (fun hb3 => ?_)
      · replace hF := gpos hb3 hF
        refine Go.run qX4_get IX4_ok 14 3 (31, [(3, .int 0), (0, .ref 0), (1, .int row), (2, .int col)], [.int 0], [(0, .inr (4, [.int wd, .int mo, .ref 1, .int sz])), (1, .inl (0, n, .inl f))]) [] rfl trivial ?_
        refine Ti_eq qX4_get 17 19 50 rfl rfl (fun _ => ?_) (fun hb => absurd (by decide) hb)
        refine Go.run qX4_get IX4_ok 28 1 (51, [(3, .int 0), (0, .ref 0), (1, .int row), (2, .int col)], [.int 0], [(0, .inr (4, [.int wd, .int mo, .ref 1, .int sz])), (1, .inl (0, n, .inl f))]) [] rfl trivial ?_
        obtain rfl := Option.some.inj hF
        exact Tr_i qX4_get 29 rfl rfl ⟨rfl, rfl⟩
      · replace hF := gneg hb3 hF
        refine Go.run qX4_get IX4_ok 8 3 (21, [(0, .ref 0), (1, .int row), (2, .int col)], [.int wd, .int col], [(0, .inr (4, [.int wd, .int mo, .ref 1, .int sz])), (1, .inl (0, n, .inl f))]) [] rfl trivial ?_
        refine Tc_ge qX4_get 11 7 28 rfl rfl (fun hb4 => ?_) (fun hb4 => ?_)
        · replace hF := gpos hb4 hF
          refine Go.run qX4_get IX4_ok 14 3 (31, [(3, .int 0), (0, .ref 0), (1, .int row), (2, .int col)], [.int 0], [(0, .inr (4, [.int wd, .int mo, .ref 1, .int sz])), (1, .inl (0, n, .inl f))]) [] rfl trivial ?_
          refine Ti_eq qX4_get 17 19 50 rfl rfl (fun _ => ?_) (fun hb => absurd (by decide) hb)
          refine Go.run qX4_get IX4_ok 28 1 (51, [(3, .int 0), (0, .ref 0), (1, .int row), (2, .int col)], [.int 0], [(0, .inr (4, [.int wd, .int mo, .ref 1, .int sz])), (1, .inl (0, n, .inl f))]) [] rfl trivial ?_
          obtain rfl := Option.some.inj hF
          exact Tr_i qX4_get 29 rfl rfl ⟨rfl, rfl⟩
        · replace hF := gneg hb4 hF
          refine Go.run qX4_get IX4_ok 12 2 (29, [(0, .ref 0), (1, .int row), (2, .int col)], [.int 1], [(0, .inr (4, [.int wd, .int mo, .ref 1, .int sz])), (1, .inl (0, n, .inl f))]) [] rfl trivial ?_
          refine Go.run qX4_get IX4_ok 15 2 (31, [(3, .int 1), (0, .ref 0), (1, .int row), (2, .int col)], [.int 1], [(0, .inr (4, [.int wd, .int mo, .ref 1, .int sz])), (1, .inl (0, n, .inl f))]) [] rfl trivial ?_
          refine Ti_eq qX4_get 17 19 50 rfl rfl (fun hb => absurd hb (by decide)) (fun _ => ?_)
          obtain ⟨hc5, hF⟩ := gif hF
          refine Go.run qX4_get IX4_ok 18 10 (51, [(3, .int 1), (0, .ref 0), (1, .int row), (2, .int col)], [.int (f ((row * wd) + col).toNatClampNeg)], [(0, .inr (4, [.int wd, .int mo, .ref 1, .int sz])), (1, .inl (0, n, .inl f))]) [gvp ((row * wd) + col) n] rfl ⟨hc5, trivial⟩ ?_
          obtain rfl := Option.some.inj hF
          exact Tr_i qX4_get 29 rfl rfl ⟨rfl, rfl⟩
def R_X4_put__4 : Room := { frames := 1, cells := 0, slots := 0, locals := 23 }
noncomputable def F_X4_put (wd : Int32) (sz : Int32) (n : Nat) (f : Nat → Int32) (row : Int32) (col : Int32) (v : Int32) : Option (Int32 × (Nat → Int32)) :=
  (F_X4_get wd sz n f row col).bind fun r1 => (F_X4_has sz row).bind fun r3 => if r3 = 0 then (some (r1, f)) else (if col < 0 then (some (r1, f)) else (if wd ≤ col then (some (r1, f)) else (if gvp ((row * wd) + col) n then (some (r1, (upd f ((row * wd) + col).toNatClampNeg v))) else none)))
set_option maxRecDepth 100000 in
set_option maxHeartbeats 4000000 in
theorem c_X4_put__4 (wd : Int32) (mo : Int32) (sz : Int32) (n : Nat) (f : Nat → Int32) (row : Int32) (col : Int32) (v : Int32) (rr : Int32 × (Nat → Int32)) (hF : F_X4_put wd sz n f row col v = some rr) : Cd mX4_put R_X4_put__4 [.ref 0, .int row, .int col, .int v] [(0, .inr (4, [.int wd, .int mo, .ref 1, .int sz])), (1, .inl (0, n, .inl f))] (some (.int rr.1)) [(0, .inr (4, [.int wd, .int mo, .ref 1, .int sz])), (1, .inl (0, n, .inl rr.2))] := by
  unfold F_X4_put at hF
  refine Ct.of rfl (Nat.le_of_ble_eq_true rfl) ?_
  refine Go.run qX4_put IX4_ok 0 3 (3, [(0, .ref 0), (1, .int row), (2, .int col), (3, .int v)], [.int col, .int row, .ref 0], [(0, .inr (4, [.int wd, .int mo, .ref 1, .int sz])), (1, .inl (0, n, .inl f))]) [] rfl trivial ?_
  obtain ⟨r1, h2, hF⟩ := gbind hF
  refine Tk_v0 qX4_put 3 rfl (c_X4_get__4 wd mo sz n f row col r1 h2) kX4_23_4 0 rfl rfl [0, 1] rfl rfl rfl rfl ⟨rfl, rfl, by decide, by decide⟩ [] rfl (Nat.le_of_ble_eq_true rfl) [.int r1] rfl [(0, .inr (4, [.int wd, .int mo, .ref 1, .int sz])), (1, .inl (0, n, .inl f))] rfl ?_
  refine Go.run qX4_put IX4_ok 4 3 (10, [(4, .int r1), (0, .ref 0), (1, .int row), (2, .int col), (3, .int v)], [.int row, .ref 0], [(0, .inr (4, [.int wd, .int mo, .ref 1, .int sz])), (1, .inl (0, n, .inl f))]) [] rfl trivial ?_
  obtain ⟨r3, h4, hF⟩ := gbind hF
  refine Tk_v0 qX4_put 7 rfl (c_X4_has__4 wd mo sz row r3 h4) kX4_27_4 0 rfl rfl [0] rfl rfl rfl rfl ⟨rfl, rfl, by decide, by decide⟩ [] rfl (Nat.le_of_ble_eq_true rfl) [.int r3] rfl [(0, .inr (4, [.int wd, .int mo, .ref 1, .int sz])), (1, .inl (0, n, .inl f))] rfl ?_
  refine Ti_eq qX4_put 8 29 42 rfl rfl (fun hb5 => ?_) (fun hb5 => ?_)
  · replace hF := gpos hb5 hF
    refine Go.run qX4_put IX4_ok 25 1 (44, [(4, .int r1), (0, .ref 0), (1, .int row), (2, .int col), (3, .int v)], [.int r1], [(0, .inr (4, [.int wd, .int mo, .ref 1, .int sz])), (1, .inl (0, n, .inl f))]) [] rfl trivial ?_
    obtain rfl := Option.some.inj hF
    exact Tr_i qX4_put 26 rfl rfl ⟨rfl, rfl⟩
  · replace hF := gneg hb5 hF
    refine Go.run qX4_put IX4_ok 9 1 (17, [(4, .int r1), (0, .ref 0), (1, .int row), (2, .int col), (3, .int v)], [.int col], [(0, .inr (4, [.int wd, .int mo, .ref 1, .int sz])), (1, .inl (0, n, .inl f))]) [] rfl trivial ?_
    refine Ti_lt qX4_put 10 25 42 rfl rfl (fun hb6 => ?_) (fun hb6 => ?_)
    · replace hF := gpos hb6 hF
      refine Go.run qX4_put IX4_ok 25 1 (44, [(4, .int r1), (0, .ref 0), (1, .int row), (2, .int col), (3, .int v)], [.int r1], [(0, .inr (4, [.int wd, .int mo, .ref 1, .int sz])), (1, .inl (0, n, .inl f))]) [] rfl trivial ?_
      obtain rfl := Option.some.inj hF
      exact Tr_i qX4_put 26 rfl rfl ⟨rfl, rfl⟩
    · replace hF := gneg hb6 hF
      refine Go.run qX4_put IX4_ok 11 3 (25, [(4, .int r1), (0, .ref 0), (1, .int row), (2, .int col), (3, .int v)], [.int wd, .int col], [(0, .inr (4, [.int wd, .int mo, .ref 1, .int sz])), (1, .inl (0, n, .inl f))]) [] rfl trivial ?_
      refine Tc_ge qX4_put 14 17 42 rfl rfl (fun hb7 => ?_) (fun hb7 => ?_)
      · replace hF := gpos hb7 hF
        refine Go.run qX4_put IX4_ok 25 1 (44, [(4, .int r1), (0, .ref 0), (1, .int row), (2, .int col), (3, .int v)], [.int r1], [(0, .inr (4, [.int wd, .int mo, .ref 1, .int sz])), (1, .inl (0, n, .inl f))]) [] rfl trivial ?_
        obtain rfl := Option.some.inj hF
        exact Tr_i qX4_put 26 rfl rfl ⟨rfl, rfl⟩
      · replace hF := gneg hb7 hF
        obtain ⟨hc8, hF⟩ := gif hF
        refine Go.run qX4_put IX4_ok 15 11 (44, [(4, .int r1), (0, .ref 0), (1, .int row), (2, .int col), (3, .int v)], [.int r1], [(0, .inr (4, [.int wd, .int mo, .ref 1, .int sz])), (1, .inl (0, n, .inl (upd f ((row * wd) + col).toNatClampNeg v)))]) [gvp ((row * wd) + col) n] rfl ⟨hc8, trivial⟩ ?_
        obtain rfl := Option.some.inj hF
        exact Tr_i qX4_put 26 rfl rfl ⟨rfl, rfl⟩
def R_X4_empty__4 : Room := { frames := 0, cells := 0, slots := 0, locals := 0 }
noncomputable def F_X4_empty  : Option Int32 :=
  some 0
set_option maxRecDepth 100000 in
set_option maxHeartbeats 4000000 in
theorem c_X4_empty__4 (wd : Int32) (mo : Int32) (sz : Int32) (rr : Int32) (hF : F_X4_empty  = some rr) : Cd mX4_empty R_X4_empty__4 [.ref 0] [(0, .inr (4, [.int wd, .int mo, .ref 1, .int sz]))] (none) [(0, .inr (4, [.int wd, .int mo, .ref 1, .int rr]))] := by
  unfold F_X4_empty at hF
  refine Ct.of rfl (Nat.le_of_ble_eq_true rfl) ?_
  refine Go.run qX4_empty IX4_ok 0 3 (5, [(0, .ref 0)], [], [(0, .inr (4, [.int wd, .int mo, .ref 1, .int 0]))]) [] rfl trivial ?_
  obtain rfl := Option.some.inj hF
  exact Tr_v qX4_empty 3 rfl rfl ⟨rfl, rfl⟩
def R_X4_takeRows__4 : Room := { frames := 1, cells := 0, slots := 0, locals := 60 }
noncomputable def F_X4_takeRows (sz : Int32) (n : Nat) (f : Nat → Int32) (sz2 : Int32) (n2 : Nat) (f2 : Nat → Int32) : Option (Int32 × (Nat → Int32)) :=
  if (Int32.ofNat n2) = (Int32.ofNat n) then (if gcp 0 0 (Int32.ofNat n) n2 n then (some (sz2, (va_cpy f2 f 0 0 (Int32.ofNat n).toNatClampNeg))) else none) else (some (sz, f))
set_option maxRecDepth 100000 in
set_option maxHeartbeats 4000000 in
theorem c_X4_takeRows__4 (wd : Int32) (mo : Int32) (sz : Int32) (n : Nat) (f : Nat → Int32) (wd2 : Int32) (mo2 : Int32) (sz2 : Int32) (n2 : Nat) (f2 : Nat → Int32) (rr : Int32 × (Nat → Int32)) (hF : F_X4_takeRows sz n f sz2 n2 f2 = some rr) : Cd mX4_takeRows R_X4_takeRows__4 [.ref 0, .ref 2] [(0, .inr (4, [.int wd, .int mo, .ref 1, .int sz])), (1, .inl (0, n, .inl f)), (2, .inr (4, [.int wd2, .int mo2, .ref 3, .int sz2])), (3, .inl (0, n2, .inl f2))] (none) [(0, .inr (4, [.int wd, .int mo, .ref 1, .int rr.1])), (1, .inl (0, n, .inl rr.2)), (2, .inr (4, [.int wd2, .int mo2, .ref 3, .int sz2])), (3, .inl (0, n2, .inl f2))] := by
  unfold F_X4_takeRows at hF
  refine Ct.of rfl (Nat.le_of_ble_eq_true rfl) ?_
  refine Go.run qX4_takeRows IX4_ok 0 6 (10, [(0, .ref 0), (1, .ref 2)], [.int (Int32.ofNat n), .int (Int32.ofNat n2)], [(0, .inr (4, [.int wd, .int mo, .ref 1, .int sz])), (1, .inl (0, n, .inl f)), (2, .inr (4, [.int wd2, .int mo2, .ref 3, .int sz2])), (3, .inl (0, n2, .inl f2))]) [] rfl trivial ?_
  refine Tc_eq qX4_takeRows 6 4 14 rfl rfl (fun hb1 => ?_) (fun hb1 => ?_)
  · replace hF := gpos hb1 hF
    refine Go.run qX4_takeRows IX4_ok 8 9 (29, [(0, .ref 0), (1, .ref 2)], [.int (Int32.ofNat n), .int 0, .ref 1, .int 0, .ref 3], [(0, .inr (4, [.int wd, .int mo, .ref 1, .int sz])), (1, .inl (0, n, .inl f)), (2, .inr (4, [.int wd2, .int mo2, .ref 3, .int sz2])), (3, .inl (0, n2, .inl f2))]) [] rfl trivial ?_
    obtain ⟨hc2, hF⟩ := gif hF
    refine Tx_i qX4_takeRows 17 rfl kcX4_31 rfl rfl hc2 (by decide) (by decide) (Nat.le_of_ble_eq_true rfl) [(0, .inr (4, [.int wd, .int mo, .ref 1, .int sz])), (1, .inl (0, n, .inl (va_cpy f2 f 0 0 (Int32.ofNat n).toNatClampNeg))), (2, .inr (4, [.int wd2, .int mo2, .ref 3, .int sz2])), (3, .inl (0, n2, .inl f2))] rfl ?_
    refine Go.run qX4_takeRows IX4_ok 18 4 (40, [(0, .ref 0), (1, .ref 2)], [], [(0, .inr (4, [.int wd, .int mo, .ref 1, .int sz2])), (1, .inl (0, n, .inl (va_cpy f2 f 0 0 (Int32.ofNat n).toNatClampNeg))), (2, .inr (4, [.int wd2, .int mo2, .ref 3, .int sz2])), (3, .inl (0, n2, .inl f2))]) [] rfl trivial ?_
    obtain rfl := Option.some.inj hF
    exact Tr_v qX4_takeRows 22 rfl rfl ⟨rfl, rfl⟩
  · replace hF := gneg hb1 hF
    obtain rfl := Option.some.inj hF
    exact Tr_v qX4_takeRows 7 rfl rfl ⟨rfl, rfl⟩
def R_X4_size__2 : Room := { frames := 0, cells := 0, slots := 0, locals := 0 }
set_option maxRecDepth 100000 in
set_option maxHeartbeats 4000000 in
theorem c_X4_size__2 (wd : Int32) (mo : Int32) (sz : Int32) (fo : Int32) (tu : Int32) (rr : Int32) (hF : F_X4_size sz = some rr) : Cd mX4_size R_X4_size__2 [.ref 0] [(0, .inr (2, [.int wd, .int mo, .ref 1, .int sz, .int fo, .int tu]))] (some (.int rr)) [(0, .inr (2, [.int wd, .int mo, .ref 1, .int sz, .int fo, .int tu]))] := by
  unfold F_X4_size at hF
  refine Ct.of rfl (Nat.le_of_ble_eq_true rfl) ?_
  refine Go.run qX4_size IX4_ok 0 2 (4, [(0, .ref 0)], [.int sz], [(0, .inr (2, [.int wd, .int mo, .ref 1, .int sz, .int fo, .int tu]))]) [] rfl trivial ?_
  obtain rfl := Option.some.inj hF
  exact Tr_i qX4_size 2 rfl rfl ⟨rfl, rfl⟩
def R_X4_has__2 : Room := { frames := 0, cells := 0, slots := 0, locals := 0 }
set_option maxRecDepth 100000 in
set_option maxHeartbeats 4000000 in
theorem c_X4_has__2 (wd : Int32) (mo : Int32) (sz : Int32) (fo : Int32) (tu : Int32) (row : Int32) (rr : Int32) (hF : F_X4_has sz row = some rr) : Cd mX4_has R_X4_has__2 [.ref 0, .int row] [(0, .inr (2, [.int wd, .int mo, .ref 1, .int sz, .int fo, .int tu]))] (some (.int rr)) [(0, .inr (2, [.int wd, .int mo, .ref 1, .int sz, .int fo, .int tu]))] := by
  unfold F_X4_has at hF
  refine Ct.of rfl (Nat.le_of_ble_eq_true rfl) ?_
  refine Go.run qX4_has IX4_ok 0 1 (1, [(0, .ref 0), (1, .int row)], [.int row], [(0, .inr (2, [.int wd, .int mo, .ref 1, .int sz, .int fo, .int tu]))]) [] rfl trivial ?_
  refine Ti_lt qX4_has 1 15 16 rfl rfl (fun hb1 => ?_) (fun hb1 => ?_)
  · replace hF := gpos hb1 hF
    refine Go.run qX4_has IX4_ok 8 1 (17, [(0, .ref 0), (1, .int row)], [.int 0], [(0, .inr (2, [.int wd, .int mo, .ref 1, .int sz, .int fo, .int tu]))]) [] rfl trivial ?_
    obtain rfl := Option.some.inj hF
    exact Tr_z qX4_has 9 rfl rfl (by decide) ⟨rfl, rfl⟩
  · replace hF := gneg hb1 hF
    refine Go.run qX4_has IX4_ok 2 3 (9, [(0, .ref 0), (1, .int row)], [.int sz, .int row], [(0, .inr (2, [.int wd, .int mo, .ref 1, .int sz, .int fo, .int tu]))]) [] rfl trivial ?_
    refine Tc_ge qX4_has 5 7 16 rfl rfl (fun hb2 => ?_) (fun hb2 => ?_)
    · replace hF := gpos hb2 hF
      refine Go.run qX4_has IX4_ok 8 1 (17, [(0, .ref 0), (1, .int row)], [.int 0], [(0, .inr (2, [.int wd, .int mo, .ref 1, .int sz, .int fo, .int tu]))]) [] rfl trivial ?_
      obtain rfl := Option.some.inj hF
      exact Tr_z qX4_has 9 rfl rfl (by decide) ⟨rfl, rfl⟩
    · replace hF := gneg hb2 hF
      refine Go.run qX4_has IX4_ok 6 2 (17, [(0, .ref 0), (1, .int row)], [.int 1], [(0, .inr (2, [.int wd, .int mo, .ref 1, .int sz, .int fo, .int tu]))]) [] rfl trivial ?_
      obtain rfl := Option.some.inj hF
      exact Tr_z qX4_has 9 rfl rfl (by decide) ⟨rfl, rfl⟩
def R_X4_open__2 : Room := { frames := 0, cells := 0, slots := 0, locals := 0 }
set_option maxRecDepth 100000 in
set_option maxHeartbeats 4000000 in
theorem t_X4_open_15__2 (wd : Int32) (mo : Int32) (sz : Int32) (fo : Int32) (tu : Int32) (n : Nat) (f : Nat → Int32) (kk46 : Int32 → (Nat → Int32) → Option (Int32 × Int32 × (Nat → Int32))) (rr : Int32 × Int32 × (Nat → Int32))  (hk46 : ∀ (l1_15 : Int32) (a1_15 : Nat → Int32), kk46 l1_15 a1_15 = some rr → Go mX4_open R_X4_open__2 (gRet mX4_open (fun r0 w0 => r0 = some (.int rr.1) ∧ w0 = [(0, .inr (2, [.int wd, .int mo, .ref 1, .int rr.2.1, .int fo, .int tu])), (1, .inl (0, n, .inl rr.2.2))])) (46, [(0, .ref 0), (1, .int l1_15)], [], [(0, .inr (2, [.int wd, .int mo, .ref 1, .int sz, .int fo, .int tu])), (1, .inl (0, n, .inl a1_15))])) : ∀ (fu : Nat) (l1_15 : Int32) (a1_15 : Nat → Int32), FL_X4_open_15 wd sz n kk46 fu l1_15 a1_15 = some rr → Go mX4_open R_X4_open__2 (gRet mX4_open (fun r0 w0 => r0 = some (.int rr.1) ∧ w0 = [(0, .inr (2, [.int wd, .int mo, .ref 1, .int rr.2.1, .int fo, .int tu])), (1, .inl (0, n, .inl rr.2.2))])) (15, [(0, .ref 0), (1, .int l1_15)], [], [(0, .inr (2, [.int wd, .int mo, .ref 1, .int sz, .int fo, .int tu])), (1, .inl (0, n, .inl a1_15))]) := by
  intro fu
  induction fu with
  | zero =>
    intro l1_15 a1_15 hF
    cases hF
  | succ fu ih =>
    intro l1_15 a1_15 hF
    unfold FL_X4_open_15 at hF
    refine Go.run qX4_open IX4_ok 9 3 (20, [(0, .ref 0), (1, .int l1_15)], [.int wd, .int l1_15], [(0, .inr (2, [.int wd, .int mo, .ref 1, .int sz, .int fo, .int tu])), (1, .inl (0, n, .inl a1_15))]) [] rfl trivial ?_
    refine Tc_ge qX4_open 12 26 46 rfl rfl (fun hb1151 => ?_) (fun hb1151 => ?_)
    · replace hF := gpos hb1151 hF
      exact hk46 l1_15 a1_15 hF
    · replace hF := gneg hb1151 hF
      obtain ⟨hc1152, hF⟩ := gif hF
      refine Go.run qX4_open IX4_ok 13 13 (15, [(1, .int (l1_15 + 1)), (0, .ref 0)], [], [(0, .inr (2, [.int wd, .int mo, .ref 1, .int sz, .int fo, .int tu])), (1, .inl (0, n, .inl (upd a1_15 ((sz * wd) + l1_15).toNatClampNeg 0)))]) [gvp ((sz * wd) + l1_15) n] rfl ⟨hc1152, trivial⟩ ?_
      refine Go.loc [1, 0] rfl ?_
      exact ih (l1_15 + 1) (upd a1_15 ((sz * wd) + l1_15).toNatClampNeg 0) hF
set_option maxRecDepth 100000 in
set_option maxHeartbeats 4000000 in
theorem c_X4_open__2 (wd : Int32) (mo : Int32) (sz : Int32) (fo : Int32) (tu : Int32) (n : Nat) (f : Nat → Int32) (rr : Int32 × Int32 × (Nat → Int32)) (hF : F_X4_open wd mo sz n f = some rr) : Cd mX4_open R_X4_open__2 [.ref 0] [(0, .inr (2, [.int wd, .int mo, .ref 1, .int sz, .int fo, .int tu])), (1, .inl (0, n, .inl f))] (some (.int rr.1)) [(0, .inr (2, [.int wd, .int mo, .ref 1, .int rr.2.1, .int fo, .int tu])), (1, .inl (0, n, .inl rr.2.2))] := by
  unfold F_X4_open at hF
  refine Ct.of rfl (Nat.le_of_ble_eq_true rfl) ?_
  refine Go.run qX4_open IX4_ok 0 4 (8, [(0, .ref 0)], [.int mo, .int sz], [(0, .inr (2, [.int wd, .int mo, .ref 1, .int sz, .int fo, .int tu])), (1, .inl (0, n, .inl f))]) [] rfl trivial ?_
  refine Tc_lt qX4_open 4 5 13 rfl rfl (fun hb1 => ?_) (fun hb1 => ?_)
  · replace hF := gpos hb1 hF
    refine Go.run qX4_open IX4_ok 7 2 (15, [(1, .int 0), (0, .ref 0)], [], [(0, .inr (2, [.int wd, .int mo, .ref 1, .int sz, .int fo, .int tu])), (1, .inl (0, n, .inl f))]) [] rfl trivial ?_
    refine Go.loc [1, 0] rfl ?_
    refine t_X4_open_15__2 wd mo sz fo tu n f _ rr (fun l1_15 a1_15 hF => ?_) gN0 0 f hF
    refine Go.run qX4_open IX4_ok 26 10 (62, [(0, .ref 0), (1, .int l1_15)], [.int ((sz + 1) - 1)], [(0, .inr (2, [.int wd, .int mo, .ref 1, .int (sz + 1), .int fo, .int tu])), (1, .inl (0, n, .inl a1_15))]) [] rfl trivial ?_
    obtain rfl := Option.some.inj hF
    exact Tr_i qX4_open 36 rfl rfl ⟨rfl, rfl⟩
  · replace hF := gneg hb1 hF
    refine Go.run qX4_open IX4_ok 5 1 (12, [(0, .ref 0)], [.int (-1)], [(0, .inr (2, [.int wd, .int mo, .ref 1, .int sz, .int fo, .int tu])), (1, .inl (0, n, .inl f))]) [] rfl trivial ?_
    obtain rfl := Option.some.inj hF
    exact Tr_i qX4_open 6 rfl rfl ⟨rfl, rfl⟩
def R_X4_get__2 : Room := { frames := 0, cells := 0, slots := 0, locals := 0 }
set_option maxRecDepth 100000 in
set_option maxHeartbeats 4000000 in
theorem c_X4_get__2 (wd : Int32) (mo : Int32) (sz : Int32) (fo : Int32) (tu : Int32) (n : Nat) (f : Nat → Int32) (row : Int32) (col : Int32) (rr : Int32) (hF : F_X4_get wd sz n f row col = some rr) : Cd mX4_get R_X4_get__2 [.ref 0, .int row, .int col] [(0, .inr (2, [.int wd, .int mo, .ref 1, .int sz, .int fo, .int tu])), (1, .inl (0, n, .inl f))] (some (.int rr)) [(0, .inr (2, [.int wd, .int mo, .ref 1, .int sz, .int fo, .int tu])), (1, .inl (0, n, .inl f))] := by
  unfold F_X4_get at hF
  refine Ct.of rfl (Nat.le_of_ble_eq_true rfl) ?_
  refine Go.run qX4_get IX4_ok 0 1 (1, [(0, .ref 0), (1, .int row), (2, .int col)], [.int row], [(0, .inr (2, [.int wd, .int mo, .ref 1, .int sz, .int fo, .int tu])), (1, .inl (0, n, .inl f))]) [] rfl trivial ?_
  refine Ti_lt qX4_get 1 27 28 rfl rfl (fun hb1 => ?_) (fun hb1 => ?_)
  · replace hF := gpos hb1 hF
    refine Go.run qX4_get IX4_ok 14 3 (31, [(3, .int 0), (0, .ref 0), (1, .int row), (2, .int col)], [.int 0], [(0, .inr (2, [.int wd, .int mo, .ref 1, .int sz, .int fo, .int tu])), (1, .inl (0, n, .inl f))]) [] rfl trivial ?_
    refine Ti_eq qX4_get 17 19 50 rfl rfl (fun _ => ?_) (fun hb => absurd (by decide) hb)
    refine Go.run qX4_get IX4_ok 28 1 (51, [(3, .int 0), (0, .ref 0), (1, .int row), (2, .int col)], [.int 0], [(0, .inr (2, [.int wd, .int mo, .ref 1, .int sz, .int fo, .int tu])), (1, .inl (0, n, .inl f))]) [] rfl trivial ?_
    obtain rfl := Option.some.inj hF
    exact Tr_i qX4_get 29 rfl rfl ⟨rfl, rfl⟩
  · replace hF := gneg hb1 hF
    refine Go.run qX4_get IX4_ok 2 3 (9, [(0, .ref 0), (1, .int row), (2, .int col)], [.int sz, .int row], [(0, .inr (2, [.int wd, .int mo, .ref 1, .int sz, .int fo, .int tu])), (1, .inl (0, n, .inl f))]) [] rfl trivial ?_
    refine Tc_ge qX4_get 5 19 28 rfl rfl (fun hb2 => ?_) (fun hb2 => ?_)
    · replace hF := gpos hb2 hF
      refine Go.run qX4_get IX4_ok 14 3 (31, [(3, .int 0), (0, .ref 0), (1, .int row), (2, .int col)], [.int 0], [(0, .inr (2, [.int wd, .int mo, .ref 1, .int sz, .int fo, .int tu])), (1, .inl (0, n, .inl f))]) [] rfl trivial ?_
      refine Ti_eq qX4_get 17 19 50 rfl rfl (fun _ => ?_) (fun hb => absurd (by decide) hb)
      refine Go.run qX4_get IX4_ok 28 1 (51, [(3, .int 0), (0, .ref 0), (1, .int row), (2, .int col)], [.int 0], [(0, .inr (2, [.int wd, .int mo, .ref 1, .int sz, .int fo, .int tu])), (1, .inl (0, n, .inl f))]) [] rfl trivial ?_
      obtain rfl := Option.some.inj hF
      exact Tr_i qX4_get 29 rfl rfl ⟨rfl, rfl⟩
    · replace hF := gneg hb2 hF
      refine Go.run qX4_get IX4_ok 6 1 (13, [(0, .ref 0), (1, .int row), (2, .int col)], [.int col], [(0, .inr (2, [.int wd, .int mo, .ref 1, .int sz, .int fo, .int tu])), (1, .inl (0, n, .inl f))]) [] rfl trivial ?_
      refine Ti_lt qX4_get 7 15 28 rfl rfl (fun hb3 => ?_) (fun hb3 => ?_)
      · replace hF := gpos hb3 hF
        refine Go.run qX4_get IX4_ok 14 3 (31, [(3, .int 0), (0, .ref 0), (1, .int row), (2, .int col)], [.int 0], [(0, .inr (2, [.int wd, .int mo, .ref 1, .int sz, .int fo, .int tu])), (1, .inl (0, n, .inl f))]) [] rfl trivial ?_
        refine Ti_eq qX4_get 17 19 50 rfl rfl (fun _ => ?_) (fun hb => absurd (by decide) hb)
        refine Go.run qX4_get IX4_ok 28 1 (51, [(3, .int 0), (0, .ref 0), (1, .int row), (2, .int col)], [.int 0], [(0, .inr (2, [.int wd, .int mo, .ref 1, .int sz, .int fo, .int tu])), (1, .inl (0, n, .inl f))]) [] rfl trivial ?_
        obtain rfl := Option.some.inj hF
        exact Tr_i qX4_get 29 rfl rfl ⟨rfl, rfl⟩
      · replace hF := gneg hb3 hF
        refine Go.run qX4_get IX4_ok 8 3 (21, [(0, .ref 0), (1, .int row), (2, .int col)], [.int wd, .int col], [(0, .inr (2, [.int wd, .int mo, .ref 1, .int sz, .int fo, .int tu])), (1, .inl (0, n, .inl f))]) [] rfl trivial ?_
        refine Tc_ge qX4_get 11 7 28 rfl rfl (fun hb4 => ?_) (fun hb4 => ?_)
        · replace hF := gpos hb4 hF
          refine Go.run qX4_get IX4_ok 14 3 (31, [(3, .int 0), (0, .ref 0), (1, .int row), (2, .int col)], [.int 0], [(0, .inr (2, [.int wd, .int mo, .ref 1, .int sz, .int fo, .int tu])), (1, .inl (0, n, .inl f))]) [] rfl trivial ?_
          refine Ti_eq qX4_get 17 19 50 rfl rfl (fun _ => ?_) (fun hb => absurd (by decide) hb)
          refine Go.run qX4_get IX4_ok 28 1 (51, [(3, .int 0), (0, .ref 0), (1, .int row), (2, .int col)], [.int 0], [(0, .inr (2, [.int wd, .int mo, .ref 1, .int sz, .int fo, .int tu])), (1, .inl (0, n, .inl f))]) [] rfl trivial ?_
          obtain rfl := Option.some.inj hF
          exact Tr_i qX4_get 29 rfl rfl ⟨rfl, rfl⟩
        · replace hF := gneg hb4 hF
          refine Go.run qX4_get IX4_ok 12 2 (29, [(0, .ref 0), (1, .int row), (2, .int col)], [.int 1], [(0, .inr (2, [.int wd, .int mo, .ref 1, .int sz, .int fo, .int tu])), (1, .inl (0, n, .inl f))]) [] rfl trivial ?_
          refine Go.run qX4_get IX4_ok 15 2 (31, [(3, .int 1), (0, .ref 0), (1, .int row), (2, .int col)], [.int 1], [(0, .inr (2, [.int wd, .int mo, .ref 1, .int sz, .int fo, .int tu])), (1, .inl (0, n, .inl f))]) [] rfl trivial ?_
          refine Ti_eq qX4_get 17 19 50 rfl rfl (fun hb => absurd hb (by decide)) (fun _ => ?_)
          obtain ⟨hc5, hF⟩ := gif hF
          refine Go.run qX4_get IX4_ok 18 10 (51, [(3, .int 1), (0, .ref 0), (1, .int row), (2, .int col)], [.int (f ((row * wd) + col).toNatClampNeg)], [(0, .inr (2, [.int wd, .int mo, .ref 1, .int sz, .int fo, .int tu])), (1, .inl (0, n, .inl f))]) [gvp ((row * wd) + col) n] rfl ⟨hc5, trivial⟩ ?_
          obtain rfl := Option.some.inj hF
          exact Tr_i qX4_get 29 rfl rfl ⟨rfl, rfl⟩
def R_X4_put__2 : Room := { frames := 1, cells := 0, slots := 0, locals := 23 }
set_option maxRecDepth 100000 in
set_option maxHeartbeats 4000000 in
theorem c_X4_put__2 (wd : Int32) (mo : Int32) (sz : Int32) (fo : Int32) (tu : Int32) (n : Nat) (f : Nat → Int32) (row : Int32) (col : Int32) (v : Int32) (rr : Int32 × (Nat → Int32)) (hF : F_X4_put wd sz n f row col v = some rr) : Cd mX4_put R_X4_put__2 [.ref 0, .int row, .int col, .int v] [(0, .inr (2, [.int wd, .int mo, .ref 1, .int sz, .int fo, .int tu])), (1, .inl (0, n, .inl f))] (some (.int rr.1)) [(0, .inr (2, [.int wd, .int mo, .ref 1, .int sz, .int fo, .int tu])), (1, .inl (0, n, .inl rr.2))] := by
  unfold F_X4_put at hF
  refine Ct.of rfl (Nat.le_of_ble_eq_true rfl) ?_
  refine Go.run qX4_put IX4_ok 0 3 (3, [(0, .ref 0), (1, .int row), (2, .int col), (3, .int v)], [.int col, .int row, .ref 0], [(0, .inr (2, [.int wd, .int mo, .ref 1, .int sz, .int fo, .int tu])), (1, .inl (0, n, .inl f))]) [] rfl trivial ?_
  obtain ⟨r1, h2, hF⟩ := gbind hF
  refine Tk_u qX4_put 3 rfl (c_X4_get__2 wd mo sz fo tu n f row col r1 h2) kX4_23_2 0 rfl rfl (gr [0, 1]) [0, 1] rfl rfl rfl rfl ⟨rfl, rfl, by decide, by decide⟩ [] rfl (Nat.le_of_ble_eq_true rfl) [.int r1] rfl [(0, .inr (2, [.int wd, .int mo, .ref 1, .int sz, .int fo, .int tu])), (1, .inl (0, n, .inl f))] rfl ?_
  refine Go.run qX4_put IX4_ok 4 3 (10, [(4, .int r1), (0, .ref 0), (1, .int row), (2, .int col), (3, .int v)], [.int row, .ref 0], [(0, .inr (2, [.int wd, .int mo, .ref 1, .int sz, .int fo, .int tu])), (1, .inl (0, n, .inl f))]) [] rfl trivial ?_
  obtain ⟨r3, h4, hF⟩ := gbind hF
  refine Tk_u qX4_put 7 rfl (c_X4_has__2 wd mo sz fo tu row r3 h4) kX4_27_2 0 rfl rfl (gr [0, 1]) [0] rfl rfl rfl rfl ⟨rfl, rfl, by decide, by decide⟩ [] rfl (Nat.le_of_ble_eq_true rfl) [.int r3] rfl [(0, .inr (2, [.int wd, .int mo, .ref 1, .int sz, .int fo, .int tu])), (1, .inl (0, n, .inl f))] rfl ?_
  refine Ti_eq qX4_put 8 29 42 rfl rfl (fun hb5 => ?_) (fun hb5 => ?_)
  · replace hF := gpos hb5 hF
    refine Go.run qX4_put IX4_ok 25 1 (44, [(4, .int r1), (0, .ref 0), (1, .int row), (2, .int col), (3, .int v)], [.int r1], [(0, .inr (2, [.int wd, .int mo, .ref 1, .int sz, .int fo, .int tu])), (1, .inl (0, n, .inl f))]) [] rfl trivial ?_
    obtain rfl := Option.some.inj hF
    exact Tr_i qX4_put 26 rfl rfl ⟨rfl, rfl⟩
  · replace hF := gneg hb5 hF
    refine Go.run qX4_put IX4_ok 9 1 (17, [(4, .int r1), (0, .ref 0), (1, .int row), (2, .int col), (3, .int v)], [.int col], [(0, .inr (2, [.int wd, .int mo, .ref 1, .int sz, .int fo, .int tu])), (1, .inl (0, n, .inl f))]) [] rfl trivial ?_
    refine Ti_lt qX4_put 10 25 42 rfl rfl (fun hb6 => ?_) (fun hb6 => ?_)
    · replace hF := gpos hb6 hF
      refine Go.run qX4_put IX4_ok 25 1 (44, [(4, .int r1), (0, .ref 0), (1, .int row), (2, .int col), (3, .int v)], [.int r1], [(0, .inr (2, [.int wd, .int mo, .ref 1, .int sz, .int fo, .int tu])), (1, .inl (0, n, .inl f))]) [] rfl trivial ?_
      obtain rfl := Option.some.inj hF
      exact Tr_i qX4_put 26 rfl rfl ⟨rfl, rfl⟩
    · replace hF := gneg hb6 hF
      refine Go.run qX4_put IX4_ok 11 3 (25, [(4, .int r1), (0, .ref 0), (1, .int row), (2, .int col), (3, .int v)], [.int wd, .int col], [(0, .inr (2, [.int wd, .int mo, .ref 1, .int sz, .int fo, .int tu])), (1, .inl (0, n, .inl f))]) [] rfl trivial ?_
      refine Tc_ge qX4_put 14 17 42 rfl rfl (fun hb7 => ?_) (fun hb7 => ?_)
      · replace hF := gpos hb7 hF
        refine Go.run qX4_put IX4_ok 25 1 (44, [(4, .int r1), (0, .ref 0), (1, .int row), (2, .int col), (3, .int v)], [.int r1], [(0, .inr (2, [.int wd, .int mo, .ref 1, .int sz, .int fo, .int tu])), (1, .inl (0, n, .inl f))]) [] rfl trivial ?_
        obtain rfl := Option.some.inj hF
        exact Tr_i qX4_put 26 rfl rfl ⟨rfl, rfl⟩
      · replace hF := gneg hb7 hF
        obtain ⟨hc8, hF⟩ := gif hF
        refine Go.run qX4_put IX4_ok 15 11 (44, [(4, .int r1), (0, .ref 0), (1, .int row), (2, .int col), (3, .int v)], [.int r1], [(0, .inr (2, [.int wd, .int mo, .ref 1, .int sz, .int fo, .int tu])), (1, .inl (0, n, .inl (upd f ((row * wd) + col).toNatClampNeg v)))]) [gvp ((row * wd) + col) n] rfl ⟨hc8, trivial⟩ ?_
        obtain rfl := Option.some.inj hF
        exact Tr_i qX4_put 26 rfl rfl ⟨rfl, rfl⟩
def R_X4_empty__2 : Room := { frames := 0, cells := 0, slots := 0, locals := 0 }
set_option maxRecDepth 100000 in
set_option maxHeartbeats 4000000 in
theorem c_X4_empty__2 (wd : Int32) (mo : Int32) (sz : Int32) (fo : Int32) (tu : Int32) (rr : Int32) (hF : F_X4_empty  = some rr) : Cd mX4_empty R_X4_empty__2 [.ref 0] [(0, .inr (2, [.int wd, .int mo, .ref 1, .int sz, .int fo, .int tu]))] (none) [(0, .inr (2, [.int wd, .int mo, .ref 1, .int rr, .int fo, .int tu]))] := by
  unfold F_X4_empty at hF
  refine Ct.of rfl (Nat.le_of_ble_eq_true rfl) ?_
  refine Go.run qX4_empty IX4_ok 0 3 (5, [(0, .ref 0)], [], [(0, .inr (2, [.int wd, .int mo, .ref 1, .int 0, .int fo, .int tu]))]) [] rfl trivial ?_
  obtain rfl := Option.some.inj hF
  exact Tr_v qX4_empty 3 rfl rfl ⟨rfl, rfl⟩
def R_X4_takeRows__2 : Room := { frames := 1, cells := 0, slots := 0, locals := 60 }
set_option maxRecDepth 100000 in
set_option maxHeartbeats 4000000 in
theorem c_X4_takeRows__2 (wd : Int32) (mo : Int32) (sz : Int32) (fo : Int32) (tu : Int32) (n : Nat) (f : Nat → Int32) (wd2 : Int32) (mo2 : Int32) (sz2 : Int32) (fo2 : Int32) (tu2 : Int32) (n2 : Nat) (f2 : Nat → Int32) (rr : Int32 × (Nat → Int32)) (hF : F_X4_takeRows sz n f sz2 n2 f2 = some rr) : Cd mX4_takeRows R_X4_takeRows__2 [.ref 0, .ref 2] [(0, .inr (2, [.int wd, .int mo, .ref 1, .int sz, .int fo, .int tu])), (1, .inl (0, n, .inl f)), (2, .inr (2, [.int wd2, .int mo2, .ref 3, .int sz2, .int fo2, .int tu2])), (3, .inl (0, n2, .inl f2))] (none) [(0, .inr (2, [.int wd, .int mo, .ref 1, .int rr.1, .int fo, .int tu])), (1, .inl (0, n, .inl rr.2)), (2, .inr (2, [.int wd2, .int mo2, .ref 3, .int sz2, .int fo2, .int tu2])), (3, .inl (0, n2, .inl f2))] := by
  unfold F_X4_takeRows at hF
  refine Ct.of rfl (Nat.le_of_ble_eq_true rfl) ?_
  refine Go.run qX4_takeRows IX4_ok 0 6 (10, [(0, .ref 0), (1, .ref 2)], [.int (Int32.ofNat n), .int (Int32.ofNat n2)], [(0, .inr (2, [.int wd, .int mo, .ref 1, .int sz, .int fo, .int tu])), (1, .inl (0, n, .inl f)), (2, .inr (2, [.int wd2, .int mo2, .ref 3, .int sz2, .int fo2, .int tu2])), (3, .inl (0, n2, .inl f2))]) [] rfl trivial ?_
  refine Tc_eq qX4_takeRows 6 4 14 rfl rfl (fun hb1 => ?_) (fun hb1 => ?_)
  · replace hF := gpos hb1 hF
    refine Go.run qX4_takeRows IX4_ok 8 9 (29, [(0, .ref 0), (1, .ref 2)], [.int (Int32.ofNat n), .int 0, .ref 1, .int 0, .ref 3], [(0, .inr (2, [.int wd, .int mo, .ref 1, .int sz, .int fo, .int tu])), (1, .inl (0, n, .inl f)), (2, .inr (2, [.int wd2, .int mo2, .ref 3, .int sz2, .int fo2, .int tu2])), (3, .inl (0, n2, .inl f2))]) [] rfl trivial ?_
    obtain ⟨hc2, hF⟩ := gif hF
    refine Tx_i qX4_takeRows 17 rfl kcX4_31 rfl rfl hc2 (by decide) (by decide) (Nat.le_of_ble_eq_true rfl) [(0, .inr (2, [.int wd, .int mo, .ref 1, .int sz, .int fo, .int tu])), (1, .inl (0, n, .inl (va_cpy f2 f 0 0 (Int32.ofNat n).toNatClampNeg))), (2, .inr (2, [.int wd2, .int mo2, .ref 3, .int sz2, .int fo2, .int tu2])), (3, .inl (0, n2, .inl f2))] rfl ?_
    refine Go.run qX4_takeRows IX4_ok 18 4 (40, [(0, .ref 0), (1, .ref 2)], [], [(0, .inr (2, [.int wd, .int mo, .ref 1, .int sz2, .int fo, .int tu])), (1, .inl (0, n, .inl (va_cpy f2 f 0 0 (Int32.ofNat n).toNatClampNeg))), (2, .inr (2, [.int wd2, .int mo2, .ref 3, .int sz2, .int fo2, .int tu2])), (3, .inl (0, n2, .inl f2))]) [] rfl trivial ?_
    obtain rfl := Option.some.inj hF
    exact Tr_v qX4_takeRows 22 rfl rfl ⟨rfl, rfl⟩
  · replace hF := gneg hb1 hF
    obtain rfl := Option.some.inj hF
    exact Tr_v qX4_takeRows 7 rfl rfl ⟨rfl, rfl⟩
