/-! Written by wip/gen/spec.py: part 13.field. -/
def R_X2_changeLaw : Room := { frames := 0, cells := 0, slots := 0, locals := 0 }
noncomputable def F_X2_changeLaw (fo : Int32) (tu : Int32) (wh : Int32) (v : Int32) : Option (Int32 × Int32 × Int32) :=
  if wh = 0 then (if wh = 0 then (some (fo, v, tu)) else (some (fo, fo, v))) else (if wh = 0 then (some (tu, v, tu)) else (some (tu, fo, v)))
set_option maxRecDepth 100000 in
set_option maxHeartbeats 4000000 in
theorem c_X2_changeLaw (sz : Int32) (fo : Int32) (tu : Int32) (wh : Int32) (v : Int32) (rr : Int32 × Int32 × Int32) (hF : F_X2_changeLaw fo tu wh v = some rr) : Cd mX2_changeLaw R_X2_changeLaw [.ref 0, .int wh, .int v] [(0, .inr (2, [.int 5, .int 10, .ref 1, .int sz, .int fo, .int tu]))] (some (.int rr.1)) [(0, .inr (2, [.int 5, .int 10, .ref 1, .int sz, .int rr.2.1, .int rr.2.2]))] := by
  unfold F_X2_changeLaw at hF
  refine Ct.of rfl (Nat.le_of_ble_eq_true rfl) ?_
  refine Go.run qX2_changeLaw IX2_ok 0 1 (1, [(0, .ref 0), (1, .int wh), (2, .int v)], [.int wh], [(0, .inr (2, [.int 5, .int 10, .ref 1, .int sz, .int fo, .int tu]))]) [] rfl trivial ?_
  refine Ti_ne qX2_changeLaw 1 10 11 rfl rfl (fun hb1 => ?_) (fun hb1 => ?_)
  · replace hF := gneg hb1 hF
    refine Go.run qX2_changeLaw IX2_ok 5 4 (17, [(3, .int tu), (0, .ref 0), (1, .int wh), (2, .int v)], [.int wh], [(0, .inr (2, [.int 5, .int 10, .ref 1, .int sz, .int fo, .int tu]))]) [] rfl trivial ?_
    refine Ti_ne qX2_changeLaw 9 11 28 rfl rfl (fun hb2 => ?_) (fun hb2 => ?_)
    · replace hF := gneg hb2 hF
      refine Go.run qX2_changeLaw IX2_ok 14 4 (34, [(3, .int tu), (0, .ref 0), (1, .int wh), (2, .int v)], [.int tu], [(0, .inr (2, [.int 5, .int 10, .ref 1, .int sz, .int fo, .int v]))]) [] rfl trivial ?_
      obtain rfl := Option.some.inj hF
      exact Tr_i qX2_changeLaw 18 rfl rfl ⟨rfl, rfl⟩
    · replace hF := gpos hb2 hF
      refine Go.run qX2_changeLaw IX2_ok 10 4 (33, [(3, .int tu), (0, .ref 0), (1, .int wh), (2, .int v)], [], [(0, .inr (2, [.int 5, .int 10, .ref 1, .int sz, .int v, .int tu]))]) [] rfl trivial ?_
      refine Go.run qX2_changeLaw IX2_ok 17 1 (34, [(3, .int tu), (0, .ref 0), (1, .int wh), (2, .int v)], [.int tu], [(0, .inr (2, [.int 5, .int 10, .ref 1, .int sz, .int v, .int tu]))]) [] rfl trivial ?_
      obtain rfl := Option.some.inj hF
      exact Tr_i qX2_changeLaw 18 rfl rfl ⟨rfl, rfl⟩
  · replace hF := gpos hb1 hF
    refine Go.run qX2_changeLaw IX2_ok 2 3 (15, [(0, .ref 0), (1, .int wh), (2, .int v)], [.int fo], [(0, .inr (2, [.int 5, .int 10, .ref 1, .int sz, .int fo, .int tu]))]) [] rfl trivial ?_
    refine Go.run qX2_changeLaw IX2_ok 7 2 (17, [(3, .int fo), (0, .ref 0), (1, .int wh), (2, .int v)], [.int wh], [(0, .inr (2, [.int 5, .int 10, .ref 1, .int sz, .int fo, .int tu]))]) [] rfl trivial ?_
    refine Ti_ne qX2_changeLaw 9 11 28 rfl rfl (fun hb3 => ?_) (fun hb3 => ?_)
    · replace hF := gneg hb3 hF
      refine Go.run qX2_changeLaw IX2_ok 14 4 (34, [(3, .int fo), (0, .ref 0), (1, .int wh), (2, .int v)], [.int fo], [(0, .inr (2, [.int 5, .int 10, .ref 1, .int sz, .int fo, .int v]))]) [] rfl trivial ?_
      obtain rfl := Option.some.inj hF
      exact Tr_i qX2_changeLaw 18 rfl rfl ⟨rfl, rfl⟩
    · replace hF := gpos hb3 hF
      refine Go.run qX2_changeLaw IX2_ok 10 4 (33, [(3, .int fo), (0, .ref 0), (1, .int wh), (2, .int v)], [], [(0, .inr (2, [.int 5, .int 10, .ref 1, .int sz, .int v, .int tu]))]) [] rfl trivial ?_
      refine Go.run qX2_changeLaw IX2_ok 17 1 (34, [(3, .int fo), (0, .ref 0), (1, .int wh), (2, .int v)], [.int fo], [(0, .inr (2, [.int 5, .int 10, .ref 1, .int sz, .int v, .int tu]))]) [] rfl trivial ?_
      obtain rfl := Option.some.inj hF
      exact Tr_i qX2_changeLaw 18 rfl rfl ⟨rfl, rfl⟩
def R_X2_middle : Room := { frames := 0, cells := 0, slots := 0, locals := 0 }
noncomputable def F_X2_middle (f : Nat → Int32) (th : Int32) (ax : Int32) (tk : Int32) : Option Int32 :=
  if th < 0 then (some 0) else (if 10 ≤ th then (some 0) else (if ax < 0 then (some 0) else (if ax ≤ 1 then (if gvp ((th * 5) + ax) 50 then (if gvp (((th * 5) + 3) + ax) 50 then (some ((f ((th * 5) + ax).toNatClampNeg) + (tk * (f (((th * 5) + 3) + ax).toNatClampNeg)))) else none) else none) else (some 0))))
set_option maxRecDepth 100000 in
set_option maxHeartbeats 4000000 in
theorem c_X2_middle (sz : Int32) (fo : Int32) (tu : Int32) (f : Nat → Int32) (th : Int32) (ax : Int32) (tk : Int32) (rr : Int32) (hF : F_X2_middle f th ax tk = some rr) : Cd mX2_middle R_X2_middle [.ref 0, .int th, .int ax, .int tk] [(0, .inr (2, [.int 5, .int 10, .ref 1, .int sz, .int fo, .int tu])), (1, .inl (0, 50, .inl f))] (some (.int rr)) [(0, .inr (2, [.int 5, .int 10, .ref 1, .int sz, .int fo, .int tu])), (1, .inl (0, 50, .inl f))] := by
  unfold F_X2_middle at hF
  refine Ct.of rfl (Nat.le_of_ble_eq_true rfl) ?_
  refine Go.run qX2_middle IX2_ok 0 1 (1, [(0, .ref 0), (1, .int th), (2, .int ax), (3, .int tk)], [.int th], [(0, .inr (2, [.int 5, .int 10, .ref 1, .int sz, .int fo, .int tu])), (1, .inl (0, 50, .inl f))]) [] rfl trivial ?_
  refine Ti_lt qX2_middle 1 18 19 rfl rfl (fun hb1 => ?_) (fun hb1 => ?_)
  · replace hF := gpos hb1 hF
    refine Go.run qX2_middle IX2_ok 10 1 (20, [(0, .ref 0), (1, .int th), (2, .int ax), (3, .int tk)], [.int 0], [(0, .inr (2, [.int 5, .int 10, .ref 1, .int sz, .int fo, .int tu])), (1, .inl (0, 50, .inl f))]) [] rfl trivial ?_
    obtain rfl := Option.some.inj hF
    exact Tr_i qX2_middle 11 rfl rfl ⟨rfl, rfl⟩
  · replace hF := gneg hb1 hF
    refine Go.run qX2_middle IX2_ok 2 2 (7, [(0, .ref 0), (1, .int th), (2, .int ax), (3, .int tk)], [.int 10, .int th], [(0, .inr (2, [.int 5, .int 10, .ref 1, .int sz, .int fo, .int tu])), (1, .inl (0, 50, .inl f))]) [] rfl trivial ?_
    refine Tc_ge qX2_middle 4 12 19 rfl rfl (fun hb2 => ?_) (fun hb2 => ?_)
    · replace hF := gpos hb2 hF
      refine Go.run qX2_middle IX2_ok 10 1 (20, [(0, .ref 0), (1, .int th), (2, .int ax), (3, .int tk)], [.int 0], [(0, .inr (2, [.int 5, .int 10, .ref 1, .int sz, .int fo, .int tu])), (1, .inl (0, 50, .inl f))]) [] rfl trivial ?_
      obtain rfl := Option.some.inj hF
      exact Tr_i qX2_middle 11 rfl rfl ⟨rfl, rfl⟩
    · replace hF := gneg hb2 hF
      refine Go.run qX2_middle IX2_ok 5 1 (11, [(0, .ref 0), (1, .int th), (2, .int ax), (3, .int tk)], [.int ax], [(0, .inr (2, [.int 5, .int 10, .ref 1, .int sz, .int fo, .int tu])), (1, .inl (0, 50, .inl f))]) [] rfl trivial ?_
      refine Ti_lt qX2_middle 6 8 19 rfl rfl (fun hb3 => ?_) (fun hb3 => ?_)
      · replace hF := gpos hb3 hF
        refine Go.run qX2_middle IX2_ok 10 1 (20, [(0, .ref 0), (1, .int th), (2, .int ax), (3, .int tk)], [.int 0], [(0, .inr (2, [.int 5, .int 10, .ref 1, .int sz, .int fo, .int tu])), (1, .inl (0, 50, .inl f))]) [] rfl trivial ?_
        obtain rfl := Option.some.inj hF
        exact Tr_i qX2_middle 11 rfl rfl ⟨rfl, rfl⟩
      · replace hF := gneg hb3 hF
        refine Go.run qX2_middle IX2_ok 7 2 (16, [(0, .ref 0), (1, .int th), (2, .int ax), (3, .int tk)], [.int 1, .int ax], [(0, .inr (2, [.int 5, .int 10, .ref 1, .int sz, .int fo, .int tu])), (1, .inl (0, 50, .inl f))]) [] rfl trivial ?_
        refine Tc_le qX2_middle 9 5 21 rfl rfl (fun hb4 => ?_) (fun hb4 => ?_)
        · replace hF := gpos hb4 hF
          obtain ⟨hc5, hF⟩ := gif hF
          obtain ⟨hc6, hF⟩ := gif hF
          refine Go.run qX2_middle IX2_ok 12 21 (49, [(4, .int (th * 5)), (0, .ref 0), (1, .int th), (2, .int ax), (3, .int tk)], [.int ((f ((th * 5) + ax).toNatClampNeg) + (tk * (f (((th * 5) + 3) + ax).toNatClampNeg)))], [(0, .inr (2, [.int 5, .int 10, .ref 1, .int sz, .int fo, .int tu])), (1, .inl (0, 50, .inl f))]) [gvp ((th * 5) + ax) 50, gvp (((th * 5) + 3) + ax) 50] rfl ⟨hc5, hc6, trivial⟩ ?_
          obtain rfl := Option.some.inj hF
          exact Tr_i qX2_middle 33 rfl rfl ⟨rfl, rfl⟩
        · replace hF := gneg hb4 hF
          refine Go.run qX2_middle IX2_ok 10 1 (20, [(0, .ref 0), (1, .int th), (2, .int ax), (3, .int tk)], [.int 0], [(0, .inr (2, [.int 5, .int 10, .ref 1, .int sz, .int fo, .int tu])), (1, .inl (0, 50, .inl f))]) [] rfl trivial ?_
          obtain rfl := Option.some.inj hF
          exact Tr_i qX2_middle 11 rfl rfl ⟨rfl, rfl⟩
def R_X2_isMet : Room := { frames := 1, cells := 0, slots := 0, locals := 24 }
noncomputable def F_X2_isMet (sz : Int32) (tu : Int32) (f : Nat → Int32) (th : Int32) (px : Int32) (py : Int32) (dx : Int32) (dy : Int32) (tk : Int32) : Option Int32 :=
  (F_X2_middle f th 0 tk).bind fun r1 => (F_X2_middle f th 1 tk).bind fun r3 => if 0 < (((r1 - px) * dx) + ((r3 - py) * dy)) then ((F_X4_get 5 sz 50 f th 2).bind fun r6 => (F_X4_get 5 sz 50 f th 2).bind fun r8 => if (((r1 - px) * (r1 - px)) + ((r3 - py) * (r3 - py))) ≤ (r6 * r8) then (some 0) else (if (((((r1 - px) * dy) - ((r3 - py) * dx)) * (((r1 - px) * dy) - ((r3 - py) * dx))) - ((r6 * r8) * ((dx * dx) + (dy * dy)))) < 0 then (some 1) else (if (((((r1 - px) * dy) - ((r3 - py) * dx)) * (((r1 - px) * dy) - ((r3 - py) * dx))) - ((r6 * r8) * ((dx * dx) + (dy * dy)))) = 0 then (if tu = 1 then (some 1) else (some 0)) else (some 0)))) else (some 0)
set_option maxRecDepth 100000 in
set_option maxHeartbeats 4000000 in
theorem c_X2_isMet (sz : Int32) (fo : Int32) (tu : Int32) (f : Nat → Int32) (th : Int32) (px : Int32) (py : Int32) (dx : Int32) (dy : Int32) (tk : Int32) (rr : Int32) (hF : F_X2_isMet sz tu f th px py dx dy tk = some rr) : Cd mX2_isMet R_X2_isMet [.ref 0, .int th, .int px, .int py, .int dx, .int dy, .int tk] [(0, .inr (2, [.int 5, .int 10, .ref 1, .int sz, .int fo, .int tu])), (1, .inl (0, 50, .inl f))] (some (.int rr)) [(0, .inr (2, [.int 5, .int 10, .ref 1, .int sz, .int fo, .int tu])), (1, .inl (0, 50, .inl f))] := by
  unfold F_X2_isMet at hF
  refine Ct.of rfl (Nat.le_of_ble_eq_true rfl) ?_
  refine Go.run qX2_isMet IX2_ok 0 4 (5, [(0, .ref 0), (1, .int th), (2, .int px), (3, .int py), (4, .int dx), (5, .int dy), (6, .int tk)], [.int tk, .int 0, .int th, .ref 0], [(0, .inr (2, [.int 5, .int 10, .ref 1, .int sz, .int fo, .int tu])), (1, .inl (0, 50, .inl f))]) [] rfl trivial ?_
  obtain ⟨r1, h2, hF⟩ := gbind hF
  refine Tk_v0 qX2_isMet 4 rfl (c_X2_middle sz fo tu f th 0 tk r1 h2) kX2_22_2 0 rfl rfl [0, 1] rfl rfl rfl rfl ⟨rfl, rfl, by decide, by decide⟩ [] rfl (Nat.le_of_ble_eq_true rfl) [.int r1] rfl [(0, .inr (2, [.int 5, .int 10, .ref 1, .int sz, .int fo, .int tu])), (1, .inl (0, 50, .inl f))] rfl ?_
  refine Go.run qX2_isMet IX2_ok 5 7 (17, [(7, .int (r1 - px)), (0, .ref 0), (1, .int th), (2, .int px), (3, .int py), (4, .int dx), (5, .int dy), (6, .int tk)], [.int tk, .int 1, .int th, .ref 0], [(0, .inr (2, [.int 5, .int 10, .ref 1, .int sz, .int fo, .int tu])), (1, .inl (0, 50, .inl f))]) [] rfl trivial ?_
  obtain ⟨r3, h4, hF⟩ := gbind hF
  refine Tk_v0 qX2_isMet 12 rfl (c_X2_middle sz fo tu f th 1 tk r3 h4) kX2_22_2 0 rfl rfl [0, 1] rfl rfl rfl rfl ⟨rfl, rfl, by decide, by decide⟩ [] rfl (Nat.le_of_ble_eq_true rfl) [.int r3] rfl [(0, .inr (2, [.int 5, .int 10, .ref 1, .int sz, .int fo, .int tu])), (1, .inl (0, 50, .inl f))] rfl ?_
  refine Go.run qX2_isMet IX2_ok 13 10 (35, [(8, .int (r3 - py)), (7, .int (r1 - px)), (0, .ref 0), (1, .int th), (2, .int px), (3, .int py), (4, .int dx), (5, .int dy), (6, .int tk)], [.int (((r1 - px) * dx) + ((r3 - py) * dy))], [(0, .inr (2, [.int 5, .int 10, .ref 1, .int sz, .int fo, .int tu])), (1, .inl (0, 50, .inl f))]) [] rfl trivial ?_
  refine Ti_gt qX2_isMet 23 5 40 rfl rfl (fun hb5 => ?_) (fun hb5 => ?_)
  · replace hF := gpos hb5 hF
    refine Go.run qX2_isMet IX2_ok 26 3 (43, [(8, .int (r3 - py)), (7, .int (r1 - px)), (0, .ref 0), (1, .int th), (2, .int px), (3, .int py), (4, .int dx), (5, .int dy), (6, .int tk)], [.int 2, .int th, .ref 0], [(0, .inr (2, [.int 5, .int 10, .ref 1, .int sz, .int fo, .int tu])), (1, .inl (0, 50, .inl f))]) [] rfl trivial ?_
    obtain ⟨r6, h7, hF⟩ := gbind hF
    refine Tk_u qX2_isMet 29 rfl (c_X4_get__2 5 10 sz fo tu 50 f th 2 r6 h7) kX2_26_2 0 rfl rfl (gr [0, 1]) [0, 1] rfl rfl rfl rfl ⟨rfl, rfl, by decide, by decide⟩ [] rfl (Nat.le_of_ble_eq_true rfl) [.int r6] rfl [(0, .inr (2, [.int 5, .int 10, .ref 1, .int sz, .int fo, .int tu])), (1, .inl (0, 50, .inl f))] rfl ?_
    refine Go.run qX2_isMet IX2_ok 30 3 (49, [(8, .int (r3 - py)), (7, .int (r1 - px)), (0, .ref 0), (1, .int th), (2, .int px), (3, .int py), (4, .int dx), (5, .int dy), (6, .int tk)], [.int 2, .int th, .ref 0, .int r6], [(0, .inr (2, [.int 5, .int 10, .ref 1, .int sz, .int fo, .int tu])), (1, .inl (0, 50, .inl f))]) [] rfl trivial ?_
    obtain ⟨r8, h9, hF⟩ := gbind hF
    refine Tk_u qX2_isMet 33 rfl (c_X4_get__2 5 10 sz fo tu 50 f th 2 r8 h9) kX2_26_2 0 rfl rfl (gr [0, 1]) [0, 1] rfl rfl rfl rfl ⟨rfl, rfl, by decide, by decide⟩ [.int r6] rfl (Nat.le_of_ble_eq_true rfl) [.int r8, .int r6] rfl [(0, .inr (2, [.int 5, .int 10, .ref 1, .int sz, .int fo, .int tu])), (1, .inl (0, 50, .inl f))] rfl ?_
    refine Go.run qX2_isMet IX2_ok 34 32 (103, [(11, .int (((((r1 - px) * dy) - ((r3 - py) * dx)) * (((r1 - px) * dy) - ((r3 - py) * dx))) - ((r6 * r8) * ((dx * dx) + (dy * dy))))), (10, .int (((r1 - px) * dy) - ((r3 - py) * dx))), (9, .int (r6 * r8)), (8, .int (r3 - py)), (7, .int (r1 - px)), (0, .ref 0), (1, .int th), (2, .int px), (3, .int py), (4, .int dx), (5, .int dy), (6, .int tk)], [.int (r6 * r8), .int (((r1 - px) * (r1 - px)) + ((r3 - py) * (r3 - py)))], [(0, .inr (2, [.int 5, .int 10, .ref 1, .int sz, .int fo, .int tu])), (1, .inl (0, 50, .inl f))]) [] rfl trivial ?_
    refine Tc_le qX2_isMet 66 25 128 rfl rfl (fun hb10 => ?_) (fun hb10 => ?_)
    · replace hF := gpos hb10 hF
      refine Go.run qX2_isMet IX2_ok 77 1 (129, [(11, .int (((((r1 - px) * dy) - ((r3 - py) * dx)) * (((r1 - px) * dy) - ((r3 - py) * dx))) - ((r6 * r8) * ((dx * dx) + (dy * dy))))), (10, .int (((r1 - px) * dy) - ((r3 - py) * dx))), (9, .int (r6 * r8)), (8, .int (r3 - py)), (7, .int (r1 - px)), (0, .ref 0), (1, .int th), (2, .int px), (3, .int py), (4, .int dx), (5, .int dy), (6, .int tk)], [.int 0], [(0, .inr (2, [.int 5, .int 10, .ref 1, .int sz, .int fo, .int tu])), (1, .inl (0, 50, .inl f))]) [] rfl trivial ?_
      obtain rfl := Option.some.inj hF
      exact Tr_z qX2_isMet 78 rfl rfl (by decide) ⟨rfl, rfl⟩
    · replace hF := gneg hb10 hF
      refine Go.run qX2_isMet IX2_ok 67 1 (108, [(11, .int (((((r1 - px) * dy) - ((r3 - py) * dx)) * (((r1 - px) * dy) - ((r3 - py) * dx))) - ((r6 * r8) * ((dx * dx) + (dy * dy))))), (10, .int (((r1 - px) * dy) - ((r3 - py) * dx))), (9, .int (r6 * r8)), (8, .int (r3 - py)), (7, .int (r1 - px)), (0, .ref 0), (1, .int th), (2, .int px), (3, .int py), (4, .int dx), (5, .int dy), (6, .int tk)], [.int (((((r1 - px) * dy) - ((r3 - py) * dx)) * (((r1 - px) * dy) - ((r3 - py) * dx))) - ((r6 * r8) * ((dx * dx) + (dy * dy))))], [(0, .inr (2, [.int 5, .int 10, .ref 1, .int sz, .int fo, .int tu])), (1, .inl (0, 50, .inl f))]) [] rfl trivial ?_
      refine Ti_lt qX2_isMet 68 16 124 rfl rfl (fun hb11 => ?_) (fun hb11 => ?_)
      · replace hF := gpos hb11 hF
        refine Go.run qX2_isMet IX2_ok 75 2 (129, [(11, .int (((((r1 - px) * dy) - ((r3 - py) * dx)) * (((r1 - px) * dy) - ((r3 - py) * dx))) - ((r6 * r8) * ((dx * dx) + (dy * dy))))), (10, .int (((r1 - px) * dy) - ((r3 - py) * dx))), (9, .int (r6 * r8)), (8, .int (r3 - py)), (7, .int (r1 - px)), (0, .ref 0), (1, .int th), (2, .int px), (3, .int py), (4, .int dx), (5, .int dy), (6, .int tk)], [.int 1], [(0, .inr (2, [.int 5, .int 10, .ref 1, .int sz, .int fo, .int tu])), (1, .inl (0, 50, .inl f))]) [] rfl trivial ?_
        obtain rfl := Option.some.inj hF
        exact Tr_z qX2_isMet 78 rfl rfl (by decide) ⟨rfl, rfl⟩
      · replace hF := gneg hb11 hF
        refine Go.run qX2_isMet IX2_ok 69 1 (113, [(11, .int (((((r1 - px) * dy) - ((r3 - py) * dx)) * (((r1 - px) * dy) - ((r3 - py) * dx))) - ((r6 * r8) * ((dx * dx) + (dy * dy))))), (10, .int (((r1 - px) * dy) - ((r3 - py) * dx))), (9, .int (r6 * r8)), (8, .int (r3 - py)), (7, .int (r1 - px)), (0, .ref 0), (1, .int th), (2, .int px), (3, .int py), (4, .int dx), (5, .int dy), (6, .int tk)], [.int (((((r1 - px) * dy) - ((r3 - py) * dx)) * (((r1 - px) * dy) - ((r3 - py) * dx))) - ((r6 * r8) * ((dx * dx) + (dy * dy))))], [(0, .inr (2, [.int 5, .int 10, .ref 1, .int sz, .int fo, .int tu])), (1, .inl (0, 50, .inl f))]) [] rfl trivial ?_
        refine Ti_ne qX2_isMet 70 15 128 rfl rfl (fun hb12 => ?_) (fun hb12 => ?_)
        · replace hF := gneg hb12 hF
          refine Go.run qX2_isMet IX2_ok 77 1 (129, [(11, .int (((((r1 - px) * dy) - ((r3 - py) * dx)) * (((r1 - px) * dy) - ((r3 - py) * dx))) - ((r6 * r8) * ((dx * dx) + (dy * dy))))), (10, .int (((r1 - px) * dy) - ((r3 - py) * dx))), (9, .int (r6 * r8)), (8, .int (r3 - py)), (7, .int (r1 - px)), (0, .ref 0), (1, .int th), (2, .int px), (3, .int py), (4, .int dx), (5, .int dy), (6, .int tk)], [.int 0], [(0, .inr (2, [.int 5, .int 10, .ref 1, .int sz, .int fo, .int tu])), (1, .inl (0, 50, .inl f))]) [] rfl trivial ?_
          obtain rfl := Option.some.inj hF
          exact Tr_z qX2_isMet 78 rfl rfl (by decide) ⟨rfl, rfl⟩
        · replace hF := gpos hb12 hF
          refine Go.run qX2_isMet IX2_ok 71 3 (121, [(11, .int (((((r1 - px) * dy) - ((r3 - py) * dx)) * (((r1 - px) * dy) - ((r3 - py) * dx))) - ((r6 * r8) * ((dx * dx) + (dy * dy))))), (10, .int (((r1 - px) * dy) - ((r3 - py) * dx))), (9, .int (r6 * r8)), (8, .int (r3 - py)), (7, .int (r1 - px)), (0, .ref 0), (1, .int th), (2, .int px), (3, .int py), (4, .int dx), (5, .int dy), (6, .int tk)], [.int 1, .int tu], [(0, .inr (2, [.int 5, .int 10, .ref 1, .int sz, .int fo, .int tu])), (1, .inl (0, 50, .inl f))]) [] rfl trivial ?_
          refine Tc_ne qX2_isMet 74 7 128 rfl rfl (fun hb13 => ?_) (fun hb13 => ?_)
          · replace hF := gneg hb13 hF
            refine Go.run qX2_isMet IX2_ok 77 1 (129, [(11, .int (((((r1 - px) * dy) - ((r3 - py) * dx)) * (((r1 - px) * dy) - ((r3 - py) * dx))) - ((r6 * r8) * ((dx * dx) + (dy * dy))))), (10, .int (((r1 - px) * dy) - ((r3 - py) * dx))), (9, .int (r6 * r8)), (8, .int (r3 - py)), (7, .int (r1 - px)), (0, .ref 0), (1, .int th), (2, .int px), (3, .int py), (4, .int dx), (5, .int dy), (6, .int tk)], [.int 0], [(0, .inr (2, [.int 5, .int 10, .ref 1, .int sz, .int fo, .int tu])), (1, .inl (0, 50, .inl f))]) [] rfl trivial ?_
            obtain rfl := Option.some.inj hF
            exact Tr_z qX2_isMet 78 rfl rfl (by decide) ⟨rfl, rfl⟩
          · replace hF := gpos hb13 hF
            refine Go.run qX2_isMet IX2_ok 75 2 (129, [(11, .int (((((r1 - px) * dy) - ((r3 - py) * dx)) * (((r1 - px) * dy) - ((r3 - py) * dx))) - ((r6 * r8) * ((dx * dx) + (dy * dy))))), (10, .int (((r1 - px) * dy) - ((r3 - py) * dx))), (9, .int (r6 * r8)), (8, .int (r3 - py)), (7, .int (r1 - px)), (0, .ref 0), (1, .int th), (2, .int px), (3, .int py), (4, .int dx), (5, .int dy), (6, .int tk)], [.int 1], [(0, .inr (2, [.int 5, .int 10, .ref 1, .int sz, .int fo, .int tu])), (1, .inl (0, 50, .inl f))]) [] rfl trivial ?_
            obtain rfl := Option.some.inj hF
            exact Tr_z qX2_isMet 78 rfl rfl (by decide) ⟨rfl, rfl⟩
  · replace hF := gneg hb5 hF
    refine Go.run qX2_isMet IX2_ok 24 1 (39, [(8, .int (r3 - py)), (7, .int (r1 - px)), (0, .ref 0), (1, .int th), (2, .int px), (3, .int py), (4, .int dx), (5, .int dy), (6, .int tk)], [.int 0], [(0, .inr (2, [.int 5, .int 10, .ref 1, .int sz, .int fo, .int tu])), (1, .inl (0, 50, .inl f))]) [] rfl trivial ?_
    obtain rfl := Option.some.inj hF
    exact Tr_z qX2_isMet 25 rfl rfl (by decide) ⟨rfl, rfl⟩
def R_X2_metBy : Room := { frames := 2, cells := 0, slots := 0, locals := 55 }
noncomputable def FL_X2_metBy_6 (sz : Int32) (tu : Int32) (f : Nat → Int32) (px : Int32) (py : Int32) (dx : Int32) (dy : Int32) (tk : Int32) (kk46 : Int32 → Int32 → Option Int32) : Nat → Int32 → Int32 → Option Int32
  | 0, _, _ => none
  | fu + 1, l6_6, l7_6 => (F_X4_size sz).bind fun r1061 => if r1061 ≤ l7_6 then (kk46 l6_6 l7_6) else ((F_X2_isMet sz tu f l7_6 px py dx dy tk).bind fun r1064 => if r1064 = 0 then (FL_X2_metBy_6 sz tu f px py dx dy tk kk46 fu l6_6 (l7_6 + 1)) else (FL_X2_metBy_6 sz tu f px py dx dy tk kk46 fu (l6_6 ||| (1 <<< (l7_6 &&& 31))) (l7_6 + 1)))
noncomputable def F_X2_metBy (sz : Int32) (tu : Int32) (f : Nat → Int32) (px : Int32) (py : Int32) (dx : Int32) (dy : Int32) (tk : Int32) : Option Int32 :=
  FL_X2_metBy_6 sz tu f px py dx dy tk (fun l6_6 l7_6 => some l6_6) gN0 0 0
set_option maxRecDepth 100000 in
set_option maxHeartbeats 4000000 in
theorem t_X2_metBy_6 (sz : Int32) (fo : Int32) (tu : Int32) (f : Nat → Int32) (px : Int32) (py : Int32) (dx : Int32) (dy : Int32) (tk : Int32) (kk46 : Int32 → Int32 → Option Int32) (rr : Int32)  (hk46 : ∀ (l6_6 : Int32) (l7_6 : Int32), kk46 l6_6 l7_6 = some rr → Go mX2_metBy R_X2_metBy (gRet mX2_metBy (fun r0 w0 => r0 = some (.int rr) ∧ w0 = [(0, .inr (2, [.int 5, .int 10, .ref 1, .int sz, .int fo, .int tu])), (1, .inl (0, 50, .inl f))])) (46, [(0, .ref 0), (1, .int px), (2, .int py), (3, .int dx), (4, .int dy), (5, .int tk), (6, .int l6_6), (7, .int l7_6)], [], [(0, .inr (2, [.int 5, .int 10, .ref 1, .int sz, .int fo, .int tu])), (1, .inl (0, 50, .inl f))])) : ∀ (fu : Nat) (l6_6 : Int32) (l7_6 : Int32), FL_X2_metBy_6 sz tu f px py dx dy tk kk46 fu l6_6 l7_6 = some rr → Go mX2_metBy R_X2_metBy (gRet mX2_metBy (fun r0 w0 => r0 = some (.int rr) ∧ w0 = [(0, .inr (2, [.int 5, .int 10, .ref 1, .int sz, .int fo, .int tu])), (1, .inl (0, 50, .inl f))])) (6, [(0, .ref 0), (1, .int px), (2, .int py), (3, .int dx), (4, .int dy), (5, .int tk), (6, .int l6_6), (7, .int l7_6)], [], [(0, .inr (2, [.int 5, .int 10, .ref 1, .int sz, .int fo, .int tu])), (1, .inl (0, 50, .inl f))]) := by
  intro fu
  induction fu with
  | zero =>
    intro l6_6 l7_6 hF
    cases hF
  | succ fu ih =>
    intro l6_6 l7_6 hF
    unfold FL_X2_metBy_6 at hF
    refine Go.run qX2_metBy IX2_ok 4 2 (9, [(0, .ref 0), (1, .int px), (2, .int py), (3, .int dx), (4, .int dy), (5, .int tk), (6, .int l6_6), (7, .int l7_6)], [.ref 0, .int l7_6], [(0, .inr (2, [.int 5, .int 10, .ref 1, .int sz, .int fo, .int tu])), (1, .inl (0, 50, .inl f))]) [] rfl trivial ?_
    obtain ⟨r1061, h1062, hF⟩ := gbind hF
    refine Tk_u qX2_metBy 6 rfl (c_X4_size__2 5 10 sz fo tu r1061 h1062) kX2_30_2 0 rfl rfl (gr [0, 1]) [0] rfl rfl rfl rfl ⟨rfl, rfl, by decide, by decide⟩ [.int l7_6] rfl (Nat.le_of_ble_eq_true rfl) [.int r1061, .int l7_6] rfl [(0, .inr (2, [.int 5, .int 10, .ref 1, .int sz, .int fo, .int tu])), (1, .inl (0, 50, .inl f))] rfl ?_
    refine Tc_ge qX2_metBy 7 34 46 rfl rfl (fun hb1063 => ?_) (fun hb1063 => ?_)
    · replace hF := gpos hb1063 hF
      exact hk46 l6_6 l7_6 hF
    · replace hF := gneg hb1063 hF
      refine Go.run qX2_metBy IX2_ok 8 7 (25, [(0, .ref 0), (1, .int px), (2, .int py), (3, .int dx), (4, .int dy), (5, .int tk), (6, .int l6_6), (7, .int l7_6)], [.int tk, .int dy, .int dx, .int py, .int px, .int l7_6, .ref 0], [(0, .inr (2, [.int 5, .int 10, .ref 1, .int sz, .int fo, .int tu])), (1, .inl (0, 50, .inl f))]) [] rfl trivial ?_
      obtain ⟨r1064, h1065, hF⟩ := gbind hF
      refine Tk_v0 qX2_metBy 15 rfl (c_X2_isMet sz fo tu f l7_6 px py dx dy tk r1064 h1065) kX2_34_2 0 rfl rfl [0, 1] rfl rfl rfl rfl ⟨rfl, rfl, by decide, by decide⟩ [] rfl (Nat.le_of_ble_eq_true rfl) [.int r1064] rfl [(0, .inr (2, [.int 5, .int 10, .ref 1, .int sz, .int fo, .int tu])), (1, .inl (0, 50, .inl f))] rfl ?_
      refine Ti_eq qX2_metBy 16 12 40 rfl rfl (fun hb1066 => ?_) (fun hb1066 => ?_)
      · replace hF := gpos hb1066 hF
        refine Go.run qX2_metBy IX2_ok 23 2 (6, [(7, .int (l7_6 + 1)), (0, .ref 0), (1, .int px), (2, .int py), (3, .int dx), (4, .int dy), (5, .int tk), (6, .int l6_6)], [], [(0, .inr (2, [.int 5, .int 10, .ref 1, .int sz, .int fo, .int tu])), (1, .inl (0, 50, .inl f))]) [] rfl trivial ?_
        refine Go.loc [1, 2, 3, 4, 5, 6, 7, 0] rfl ?_
        exact ih l6_6 (l7_6 + 1) hF
      · replace hF := gneg hb1066 hF
        refine Go.run qX2_metBy IX2_ok 17 8 (6, [(7, .int (l7_6 + 1)), (6, .int (l6_6 ||| (1 <<< (l7_6 &&& 31)))), (0, .ref 0), (1, .int px), (2, .int py), (3, .int dx), (4, .int dy), (5, .int tk)], [], [(0, .inr (2, [.int 5, .int 10, .ref 1, .int sz, .int fo, .int tu])), (1, .inl (0, 50, .inl f))]) [] rfl trivial ?_
        refine Go.loc [2, 3, 4, 5, 6, 7, 1, 0] rfl ?_
        exact ih (l6_6 ||| (1 <<< (l7_6 &&& 31))) (l7_6 + 1) hF
set_option maxRecDepth 100000 in
set_option maxHeartbeats 4000000 in
theorem c_X2_metBy (sz : Int32) (fo : Int32) (tu : Int32) (f : Nat → Int32) (px : Int32) (py : Int32) (dx : Int32) (dy : Int32) (tk : Int32) (rr : Int32) (hF : F_X2_metBy sz tu f px py dx dy tk = some rr) : Cd mX2_metBy R_X2_metBy [.ref 0, .int px, .int py, .int dx, .int dy, .int tk] [(0, .inr (2, [.int 5, .int 10, .ref 1, .int sz, .int fo, .int tu])), (1, .inl (0, 50, .inl f))] (some (.int rr)) [(0, .inr (2, [.int 5, .int 10, .ref 1, .int sz, .int fo, .int tu])), (1, .inl (0, 50, .inl f))] := by
  unfold F_X2_metBy at hF
  refine Ct.of rfl (Nat.le_of_ble_eq_true rfl) ?_
  refine Go.run qX2_metBy IX2_ok 0 4 (6, [(7, .int 0), (6, .int 0), (0, .ref 0), (1, .int px), (2, .int py), (3, .int dx), (4, .int dy), (5, .int tk)], [], [(0, .inr (2, [.int 5, .int 10, .ref 1, .int sz, .int fo, .int tu])), (1, .inl (0, 50, .inl f))]) [] rfl trivial ?_
  refine Go.loc [2, 3, 4, 5, 6, 7, 1, 0] rfl ?_
  refine t_X2_metBy_6 sz fo tu f px py dx dy tk _ rr (fun l6_6 l7_6 hF => ?_) gN0 0 0 hF
  refine Go.run qX2_metBy IX2_ok 25 1 (48, [(0, .ref 0), (1, .int px), (2, .int py), (3, .int dx), (4, .int dy), (5, .int tk), (6, .int l6_6), (7, .int l7_6)], [.int l6_6], [(0, .inr (2, [.int 5, .int 10, .ref 1, .int sz, .int fo, .int tu])), (1, .inl (0, 50, .inl f))]) [] rfl trivial ?_
  obtain rfl := Option.some.inj hF
  exact Tr_i qX2_metBy 26 rfl rfl ⟨rfl, rfl⟩
def R_X2_isAhead : Room := { frames := 1, cells := 0, slots := 0, locals := 24 }
noncomputable def F_X2_isAhead (f : Nat → Int32) (th : Int32) (o : Int32) (dx : Int32) (dy : Int32) (tk : Int32) : Option Int32 :=
  (F_X2_middle f th 0 tk).bind fun r1 => (F_X2_middle f th 1 tk).bind fun r3 => (F_X2_middle f o 0 tk).bind fun r5 => (F_X2_middle f o 1 tk).bind fun r7 => if ((r1 * dx) + (r3 * dy)) < ((r5 * dx) + (r7 * dy)) then (some 1) else (if ((r1 * dx) + (r3 * dy)) = ((r5 * dx) + (r7 * dy)) then (if o ≤ th then (some 0) else (some 1)) else (some 0))
set_option maxRecDepth 100000 in
set_option maxHeartbeats 4000000 in
theorem c_X2_isAhead (sz : Int32) (fo : Int32) (tu : Int32) (f : Nat → Int32) (th : Int32) (o : Int32) (dx : Int32) (dy : Int32) (tk : Int32) (rr : Int32) (hF : F_X2_isAhead f th o dx dy tk = some rr) : Cd mX2_isAhead R_X2_isAhead [.ref 0, .int th, .int o, .int dx, .int dy, .int tk] [(0, .inr (2, [.int 5, .int 10, .ref 1, .int sz, .int fo, .int tu])), (1, .inl (0, 50, .inl f))] (some (.int rr)) [(0, .inr (2, [.int 5, .int 10, .ref 1, .int sz, .int fo, .int tu])), (1, .inl (0, 50, .inl f))] := by
  unfold F_X2_isAhead at hF
  refine Ct.of rfl (Nat.le_of_ble_eq_true rfl) ?_
  refine Go.run qX2_isAhead IX2_ok 0 4 (5, [(0, .ref 0), (1, .int th), (2, .int o), (3, .int dx), (4, .int dy), (5, .int tk)], [.int tk, .int 0, .int th, .ref 0], [(0, .inr (2, [.int 5, .int 10, .ref 1, .int sz, .int fo, .int tu])), (1, .inl (0, 50, .inl f))]) [] rfl trivial ?_
  obtain ⟨r1, h2, hF⟩ := gbind hF
  refine Tk_v0 qX2_isAhead 4 rfl (c_X2_middle sz fo tu f th 0 tk r1 h2) kX2_22_2 0 rfl rfl [0, 1] rfl rfl rfl rfl ⟨rfl, rfl, by decide, by decide⟩ [] rfl (Nat.le_of_ble_eq_true rfl) [.int r1] rfl [(0, .inr (2, [.int 5, .int 10, .ref 1, .int sz, .int fo, .int tu])), (1, .inl (0, 50, .inl f))] rfl ?_
  refine Go.run qX2_isAhead IX2_ok 5 6 (15, [(0, .ref 0), (1, .int th), (2, .int o), (3, .int dx), (4, .int dy), (5, .int tk)], [.int tk, .int 1, .int th, .ref 0, .int (r1 * dx)], [(0, .inr (2, [.int 5, .int 10, .ref 1, .int sz, .int fo, .int tu])), (1, .inl (0, 50, .inl f))]) [] rfl trivial ?_
  obtain ⟨r3, h4, hF⟩ := gbind hF
  refine Tk_v0 qX2_isAhead 11 rfl (c_X2_middle sz fo tu f th 1 tk r3 h4) kX2_22_2 0 rfl rfl [0, 1] rfl rfl rfl rfl ⟨rfl, rfl, by decide, by decide⟩ [.int (r1 * dx)] rfl (Nat.le_of_ble_eq_true rfl) [.int r3, .int (r1 * dx)] rfl [(0, .inr (2, [.int 5, .int 10, .ref 1, .int sz, .int fo, .int tu])), (1, .inl (0, 50, .inl f))] rfl ?_
  refine Go.run qX2_isAhead IX2_ok 12 8 (29, [(6, .int ((r1 * dx) + (r3 * dy))), (0, .ref 0), (1, .int th), (2, .int o), (3, .int dx), (4, .int dy), (5, .int tk)], [.int tk, .int 0, .int o, .ref 0], [(0, .inr (2, [.int 5, .int 10, .ref 1, .int sz, .int fo, .int tu])), (1, .inl (0, 50, .inl f))]) [] rfl trivial ?_
  obtain ⟨r5, h6, hF⟩ := gbind hF
  refine Tk_v0 qX2_isAhead 20 rfl (c_X2_middle sz fo tu f o 0 tk r5 h6) kX2_22_2 0 rfl rfl [0, 1] rfl rfl rfl rfl ⟨rfl, rfl, by decide, by decide⟩ [] rfl (Nat.le_of_ble_eq_true rfl) [.int r5] rfl [(0, .inr (2, [.int 5, .int 10, .ref 1, .int sz, .int fo, .int tu])), (1, .inl (0, 50, .inl f))] rfl ?_
  refine Go.run qX2_isAhead IX2_ok 21 6 (39, [(6, .int ((r1 * dx) + (r3 * dy))), (0, .ref 0), (1, .int th), (2, .int o), (3, .int dx), (4, .int dy), (5, .int tk)], [.int tk, .int 1, .int o, .ref 0, .int (r5 * dx)], [(0, .inr (2, [.int 5, .int 10, .ref 1, .int sz, .int fo, .int tu])), (1, .inl (0, 50, .inl f))]) [] rfl trivial ?_
  obtain ⟨r7, h8, hF⟩ := gbind hF
  refine Tk_v0 qX2_isAhead 27 rfl (c_X2_middle sz fo tu f o 1 tk r7 h8) kX2_22_2 0 rfl rfl [0, 1] rfl rfl rfl rfl ⟨rfl, rfl, by decide, by decide⟩ [.int (r5 * dx)] rfl (Nat.le_of_ble_eq_true rfl) [.int r7, .int (r5 * dx)] rfl [(0, .inr (2, [.int 5, .int 10, .ref 1, .int sz, .int fo, .int tu])), (1, .inl (0, 50, .inl f))] rfl ?_
  refine Go.run qX2_isAhead IX2_ok 28 6 (52, [(7, .int ((r5 * dx) + (r7 * dy))), (6, .int ((r1 * dx) + (r3 * dy))), (0, .ref 0), (1, .int th), (2, .int o), (3, .int dx), (4, .int dy), (5, .int tk)], [.int ((r5 * dx) + (r7 * dy)), .int ((r1 * dx) + (r3 * dy))], [(0, .inr (2, [.int 5, .int 10, .ref 1, .int sz, .int fo, .int tu])), (1, .inl (0, 50, .inl f))]) [] rfl trivial ?_
  refine Tc_lt qX2_isAhead 34 15 67 rfl rfl (fun hb9 => ?_) (fun hb9 => ?_)
  · replace hF := gpos hb9 hF
    refine Go.run qX2_isAhead IX2_ok 41 2 (72, [(7, .int ((r5 * dx) + (r7 * dy))), (6, .int ((r1 * dx) + (r3 * dy))), (0, .ref 0), (1, .int th), (2, .int o), (3, .int dx), (4, .int dy), (5, .int tk)], [.int 1], [(0, .inr (2, [.int 5, .int 10, .ref 1, .int sz, .int fo, .int tu])), (1, .inl (0, 50, .inl f))]) [] rfl trivial ?_
    obtain rfl := Option.some.inj hF
    exact Tr_z qX2_isAhead 44 rfl rfl (by decide) ⟨rfl, rfl⟩
  · replace hF := gneg hb9 hF
    refine Go.run qX2_isAhead IX2_ok 35 2 (59, [(7, .int ((r5 * dx) + (r7 * dy))), (6, .int ((r1 * dx) + (r3 * dy))), (0, .ref 0), (1, .int th), (2, .int o), (3, .int dx), (4, .int dy), (5, .int tk)], [.int ((r5 * dx) + (r7 * dy)), .int ((r1 * dx) + (r3 * dy))], [(0, .inr (2, [.int 5, .int 10, .ref 1, .int sz, .int fo, .int tu])), (1, .inl (0, 50, .inl f))]) [] rfl trivial ?_
    refine Tc_ne qX2_isAhead 37 12 71 rfl rfl (fun hb10 => ?_) (fun hb10 => ?_)
    · replace hF := gneg hb10 hF
      refine Go.run qX2_isAhead IX2_ok 43 1 (72, [(7, .int ((r5 * dx) + (r7 * dy))), (6, .int ((r1 * dx) + (r3 * dy))), (0, .ref 0), (1, .int th), (2, .int o), (3, .int dx), (4, .int dy), (5, .int tk)], [.int 0], [(0, .inr (2, [.int 5, .int 10, .ref 1, .int sz, .int fo, .int tu])), (1, .inl (0, 50, .inl f))]) [] rfl trivial ?_
      obtain rfl := Option.some.inj hF
      exact Tr_z qX2_isAhead 44 rfl rfl (by decide) ⟨rfl, rfl⟩
    · replace hF := gpos hb10 hF
      refine Go.run qX2_isAhead IX2_ok 38 2 (64, [(7, .int ((r5 * dx) + (r7 * dy))), (6, .int ((r1 * dx) + (r3 * dy))), (0, .ref 0), (1, .int th), (2, .int o), (3, .int dx), (4, .int dy), (5, .int tk)], [.int o, .int th], [(0, .inr (2, [.int 5, .int 10, .ref 1, .int sz, .int fo, .int tu])), (1, .inl (0, 50, .inl f))]) [] rfl trivial ?_
      refine Tc_ge qX2_isAhead 40 7 71 rfl rfl (fun hb11 => ?_) (fun hb11 => ?_)
      · replace hF := gpos hb11 hF
        refine Go.run qX2_isAhead IX2_ok 43 1 (72, [(7, .int ((r5 * dx) + (r7 * dy))), (6, .int ((r1 * dx) + (r3 * dy))), (0, .ref 0), (1, .int th), (2, .int o), (3, .int dx), (4, .int dy), (5, .int tk)], [.int 0], [(0, .inr (2, [.int 5, .int 10, .ref 1, .int sz, .int fo, .int tu])), (1, .inl (0, 50, .inl f))]) [] rfl trivial ?_
        obtain rfl := Option.some.inj hF
        exact Tr_z qX2_isAhead 44 rfl rfl (by decide) ⟨rfl, rfl⟩
      · replace hF := gneg hb11 hF
        refine Go.run qX2_isAhead IX2_ok 41 2 (72, [(7, .int ((r5 * dx) + (r7 * dy))), (6, .int ((r1 * dx) + (r3 * dy))), (0, .ref 0), (1, .int th), (2, .int o), (3, .int dx), (4, .int dy), (5, .int tk)], [.int 1], [(0, .inr (2, [.int 5, .int 10, .ref 1, .int sz, .int fo, .int tu])), (1, .inl (0, 50, .inl f))]) [] rfl trivial ?_
        obtain rfl := Option.some.inj hF
        exact Tr_z qX2_isAhead 44 rfl rfl (by decide) ⟨rfl, rfl⟩
def R_X2_narrowed : Room := { frames := 2, cells := 0, slots := 0, locals := 51 }
noncomputable def FL_X2_narrowed_25 (sz : Int32) (f : Nat → Int32) (b : Int32) (dx : Int32) (dy : Int32) (tk : Int32) (kk69 : Int32 → Int32 → Option Int32) : Nat → Int32 → Int32 → Option Int32
  | 0, _, _ => none
  | fu + 1, l5_25, l6_25 => (F_X4_size sz).bind fun r1251 => if r1251 ≤ l6_25 then (kk69 l5_25 l6_25) else (if ((b >>> (l6_25 &&& 31)) &&& 1) = 1 then ((F_X2_isAhead f l6_25 l5_25 dx dy tk).bind fun r1255 => if r1255 = 0 then (FL_X2_narrowed_25 sz f b dx dy tk kk69 fu l5_25 (l6_25 + 1)) else (FL_X2_narrowed_25 sz f b dx dy tk kk69 fu l6_25 (l6_25 + 1))) else (FL_X2_narrowed_25 sz f b dx dy tk kk69 fu l5_25 (l6_25 + 1)))
noncomputable def F_X2_narrowed (sz : Int32) (fo : Int32) (f : Nat → Int32) (b : Int32) (dx : Int32) (dy : Int32) (tk : Int32) : Option Int32 :=
  if fo = 0 then (some b) else (if b = 0 then (some b) else ((F_ntz b).bind fun r3 => FL_X2_narrowed_25 sz f b dx dy tk (fun l5_25 l6_25 => some (1 <<< (l5_25 &&& 31))) gN0 r3 (r3 + 1)))
set_option maxRecDepth 100000 in
set_option maxHeartbeats 4000000 in
theorem t_X2_narrowed_25 (sz : Int32) (fo : Int32) (tu : Int32) (f : Nat → Int32) (b : Int32) (dx : Int32) (dy : Int32) (tk : Int32) (kk69 : Int32 → Int32 → Option Int32) (rr : Int32)  (hk69 : ∀ (l5_25 : Int32) (l6_25 : Int32), kk69 l5_25 l6_25 = some rr → Go mX2_narrowed R_X2_narrowed (gRet mX2_narrowed (fun r0 w0 => r0 = some (.int rr) ∧ w0 = [(0, .inr (2, [.int 5, .int 10, .ref 1, .int sz, .int fo, .int tu])), (1, .inl (0, 50, .inl f))])) (69, [(0, .ref 0), (1, .int b), (2, .int dx), (3, .int dy), (4, .int tk), (5, .int l5_25), (6, .int l6_25)], [], [(0, .inr (2, [.int 5, .int 10, .ref 1, .int sz, .int fo, .int tu])), (1, .inl (0, 50, .inl f))])) : ∀ (fu : Nat) (l5_25 : Int32) (l6_25 : Int32), FL_X2_narrowed_25 sz f b dx dy tk kk69 fu l5_25 l6_25 = some rr → Go mX2_narrowed R_X2_narrowed (gRet mX2_narrowed (fun r0 w0 => r0 = some (.int rr) ∧ w0 = [(0, .inr (2, [.int 5, .int 10, .ref 1, .int sz, .int fo, .int tu])), (1, .inl (0, 50, .inl f))])) (25, [(0, .ref 0), (1, .int b), (2, .int dx), (3, .int dy), (4, .int tk), (5, .int l5_25), (6, .int l6_25)], [], [(0, .inr (2, [.int 5, .int 10, .ref 1, .int sz, .int fo, .int tu])), (1, .inl (0, 50, .inl f))]) := by
  intro fu
  induction fu with
  | zero =>
    intro l5_25 l6_25 hF
    cases hF
  | succ fu ih =>
    intro l5_25 l6_25 hF
    unfold FL_X2_narrowed_25 at hF
    refine Go.run qX2_narrowed IX2_ok 14 2 (28, [(0, .ref 0), (1, .int b), (2, .int dx), (3, .int dy), (4, .int tk), (5, .int l5_25), (6, .int l6_25)], [.ref 0, .int l6_25], [(0, .inr (2, [.int 5, .int 10, .ref 1, .int sz, .int fo, .int tu])), (1, .inl (0, 50, .inl f))]) [] rfl trivial ?_
    obtain ⟨r1251, h1252, hF⟩ := gbind hF
    refine Tk_u qX2_narrowed 16 rfl (c_X4_size__2 5 10 sz fo tu r1251 h1252) kX2_30_2 0 rfl rfl (gr [0, 1]) [0] rfl rfl rfl rfl ⟨rfl, rfl, by decide, by decide⟩ [.int l6_25] rfl (Nat.le_of_ble_eq_true rfl) [.int r1251, .int l6_25] rfl [(0, .inr (2, [.int 5, .int 10, .ref 1, .int sz, .int fo, .int tu])), (1, .inl (0, 50, .inl f))] rfl ?_
    refine Tc_ge qX2_narrowed 17 38 69 rfl rfl (fun hb1253 => ?_) (fun hb1253 => ?_)
    · replace hF := gpos hb1253 hF
      exact hk69 l5_25 l6_25 hF
    · replace hF := gneg hb1253 hF
      refine Go.run qX2_narrowed IX2_ok 18 6 (41, [(0, .ref 0), (1, .int b), (2, .int dx), (3, .int dy), (4, .int tk), (5, .int l5_25), (6, .int l6_25)], [.int 1, .int ((b >>> (l6_25 &&& 31)) &&& 1)], [(0, .inr (2, [.int 5, .int 10, .ref 1, .int sz, .int fo, .int tu])), (1, .inl (0, 50, .inl f))]) [] rfl trivial ?_
      refine Tc_ne qX2_narrowed 24 22 63 rfl rfl (fun hb1254 => ?_) (fun hb1254 => ?_)
      · replace hF := gneg hb1254 hF
        refine Go.run qX2_narrowed IX2_ok 35 2 (25, [(6, .int (l6_25 + 1)), (0, .ref 0), (1, .int b), (2, .int dx), (3, .int dy), (4, .int tk), (5, .int l5_25)], [], [(0, .inr (2, [.int 5, .int 10, .ref 1, .int sz, .int fo, .int tu])), (1, .inl (0, 50, .inl f))]) [] rfl trivial ?_
        refine Go.loc [1, 2, 3, 4, 5, 6, 0] rfl ?_
        exact ih l5_25 (l6_25 + 1) hF
      · replace hF := gpos hb1254 hF
        refine Go.run qX2_narrowed IX2_ok 25 6 (53, [(0, .ref 0), (1, .int b), (2, .int dx), (3, .int dy), (4, .int tk), (5, .int l5_25), (6, .int l6_25)], [.int tk, .int dy, .int dx, .int l5_25, .int l6_25, .ref 0], [(0, .inr (2, [.int 5, .int 10, .ref 1, .int sz, .int fo, .int tu])), (1, .inl (0, 50, .inl f))]) [] rfl trivial ?_
        obtain ⟨r1255, h1256, hF⟩ := gbind hF
        refine Tk_v0 qX2_narrowed 31 rfl (c_X2_isAhead sz fo tu f l6_25 l5_25 dx dy tk r1255 h1256) kX2_44_2 0 rfl rfl [0, 1] rfl rfl rfl rfl ⟨rfl, rfl, by decide, by decide⟩ [] rfl (Nat.le_of_ble_eq_true rfl) [.int r1255] rfl [(0, .inr (2, [.int 5, .int 10, .ref 1, .int sz, .int fo, .int tu])), (1, .inl (0, 50, .inl f))] rfl ?_
        refine Ti_eq qX2_narrowed 32 7 63 rfl rfl (fun hb1257 => ?_) (fun hb1257 => ?_)
        · replace hF := gpos hb1257 hF
          refine Go.run qX2_narrowed IX2_ok 35 2 (25, [(6, .int (l6_25 + 1)), (0, .ref 0), (1, .int b), (2, .int dx), (3, .int dy), (4, .int tk), (5, .int l5_25)], [], [(0, .inr (2, [.int 5, .int 10, .ref 1, .int sz, .int fo, .int tu])), (1, .inl (0, 50, .inl f))]) [] rfl trivial ?_
          refine Go.loc [1, 2, 3, 4, 5, 6, 0] rfl ?_
          exact ih l5_25 (l6_25 + 1) hF
        · replace hF := gneg hb1257 hF
          refine Go.run qX2_narrowed IX2_ok 33 4 (25, [(6, .int (l6_25 + 1)), (5, .int l6_25), (0, .ref 0), (1, .int b), (2, .int dx), (3, .int dy), (4, .int tk)], [], [(0, .inr (2, [.int 5, .int 10, .ref 1, .int sz, .int fo, .int tu])), (1, .inl (0, 50, .inl f))]) [] rfl trivial ?_
          refine Go.loc [2, 3, 4, 5, 6, 1, 0] rfl ?_
          exact ih l6_25 (l6_25 + 1) hF
set_option maxRecDepth 100000 in
set_option maxHeartbeats 4000000 in
theorem c_X2_narrowed (sz : Int32) (fo : Int32) (tu : Int32) (f : Nat → Int32) (b : Int32) (dx : Int32) (dy : Int32) (tk : Int32) (rr : Int32) (hF : F_X2_narrowed sz fo f b dx dy tk = some rr) : Cd mX2_narrowed R_X2_narrowed [.ref 0, .int b, .int dx, .int dy, .int tk] [(0, .inr (2, [.int 5, .int 10, .ref 1, .int sz, .int fo, .int tu])), (1, .inl (0, 50, .inl f))] (some (.int rr)) [(0, .inr (2, [.int 5, .int 10, .ref 1, .int sz, .int fo, .int tu])), (1, .inl (0, 50, .inl f))] := by
  unfold F_X2_narrowed at hF
  refine Ct.of rfl (Nat.le_of_ble_eq_true rfl) ?_
  refine Go.run qX2_narrowed IX2_ok 0 2 (4, [(0, .ref 0), (1, .int b), (2, .int dx), (3, .int dy), (4, .int tk)], [.int fo], [(0, .inr (2, [.int 5, .int 10, .ref 1, .int sz, .int fo, .int tu])), (1, .inl (0, 50, .inl f))]) [] rfl trivial ?_
  refine Ti_eq qX2_narrowed 2 7 11 rfl rfl (fun hb1 => ?_) (fun hb1 => ?_)
  · replace hF := gpos hb1 hF
    refine Go.run qX2_narrowed IX2_ok 5 1 (12, [(0, .ref 0), (1, .int b), (2, .int dx), (3, .int dy), (4, .int tk)], [.int b], [(0, .inr (2, [.int 5, .int 10, .ref 1, .int sz, .int fo, .int tu])), (1, .inl (0, 50, .inl f))]) [] rfl trivial ?_
    obtain rfl := Option.some.inj hF
    exact Tr_i qX2_narrowed 6 rfl rfl ⟨rfl, rfl⟩
  · replace hF := gneg hb1 hF
    refine Go.run qX2_narrowed IX2_ok 3 1 (8, [(0, .ref 0), (1, .int b), (2, .int dx), (3, .int dy), (4, .int tk)], [.int b], [(0, .inr (2, [.int 5, .int 10, .ref 1, .int sz, .int fo, .int tu])), (1, .inl (0, 50, .inl f))]) [] rfl trivial ?_
    refine Ti_ne qX2_narrowed 4 5 13 rfl rfl (fun hb2 => ?_) (fun hb2 => ?_)
    · replace hF := gneg hb2 hF
      refine Go.run qX2_narrowed IX2_ok 7 1 (14, [(0, .ref 0), (1, .int b), (2, .int dx), (3, .int dy), (4, .int tk)], [.int b], [(0, .inr (2, [.int 5, .int 10, .ref 1, .int sz, .int fo, .int tu])), (1, .inl (0, 50, .inl f))]) [] rfl trivial ?_
      obtain ⟨r3, h4, hF⟩ := gbind hF
      refine Tk_s qX2_narrowed 8 rfl (c_ntz b r3 h4) kX2_38 (gr []) [] rfl rfl rfl rfl ⟨rfl, rfl, by decide, by decide⟩ [] rfl (Nat.le_of_ble_eq_true rfl) [.int r3] rfl [(0, .inr (2, [.int 5, .int 10, .ref 1, .int sz, .int fo, .int tu])), (1, .inl (0, 50, .inl f))] rfl ?_
      refine Go.run qX2_narrowed IX2_ok 9 5 (25, [(6, .int (r3 + 1)), (5, .int r3), (0, .ref 0), (1, .int b), (2, .int dx), (3, .int dy), (4, .int tk)], [], [(0, .inr (2, [.int 5, .int 10, .ref 1, .int sz, .int fo, .int tu])), (1, .inl (0, 50, .inl f))]) [] rfl trivial ?_
      refine Go.loc [2, 3, 4, 5, 6, 1, 0] rfl ?_
      refine t_X2_narrowed_25 sz fo tu f b dx dy tk _ rr (fun l5_25 l6_25 hF => ?_) gN0 r3 (r3 + 1) hF
      refine Go.run qX2_narrowed IX2_ok 37 3 (73, [(0, .ref 0), (1, .int b), (2, .int dx), (3, .int dy), (4, .int tk), (5, .int l5_25), (6, .int l6_25)], [.int (1 <<< (l5_25 &&& 31))], [(0, .inr (2, [.int 5, .int 10, .ref 1, .int sz, .int fo, .int tu])), (1, .inl (0, 50, .inl f))]) [] rfl trivial ?_
      obtain rfl := Option.some.inj hF
      exact Tr_i qX2_narrowed 40 rfl rfl ⟨rfl, rfl⟩
    · replace hF := gpos hb2 hF
      refine Go.run qX2_narrowed IX2_ok 5 1 (12, [(0, .ref 0), (1, .int b), (2, .int dx), (3, .int dy), (4, .int tk)], [.int b], [(0, .inr (2, [.int 5, .int 10, .ref 1, .int sz, .int fo, .int tu])), (1, .inl (0, 50, .inl f))]) [] rfl trivial ?_
      obtain rfl := Option.some.inj hF
      exact Tr_i qX2_narrowed 6 rfl rfl ⟨rfl, rfl⟩
def R_X2_meansJust : Room := { frames := 2, cells := 0, slots := 0, locals := 55 }
noncomputable def FL_X2_meansJust_20 (sz : Int32) (fo : Int32) (tu : Int32) (f : Nat → Int32) (th : Int32) (px : Int32) (py : Int32) (dx : Int32) (dy : Int32) (kk93 : Int32 → Option Int32) : Nat → Int32 → Option Int32
  | 0, _ => none
  | fu + 1, l6_20 => (F_X4_size sz).bind fun r1201 => if r1201 ≤ l6_20 then (kk93 l6_20) else (if l6_20 = th then (FL_X2_meansJust_20 sz fo tu f th px py dx dy kk93 fu (l6_20 + 1)) else (if fo = 0 then ((F_X2_isMet sz tu f l6_20 px py dx dy 0).bind fun r1206 => if r1206 = 0 then (FL_X2_meansJust_20 sz fo tu f th px py dx dy kk93 fu (l6_20 + 1)) else (some 0)) else ((F_X2_isAhead f l6_20 th dx dy 0).bind fun r1209 => if r1209 = 0 then (FL_X2_meansJust_20 sz fo tu f th px py dx dy kk93 fu (l6_20 + 1)) else ((F_X2_isMet sz tu f l6_20 px py dx dy 0).bind fun r1212 => if r1212 = 0 then (FL_X2_meansJust_20 sz fo tu f th px py dx dy kk93 fu (l6_20 + 1)) else (some 0)))))
noncomputable def F_X2_meansJust (sz : Int32) (fo : Int32) (tu : Int32) (f : Nat → Int32) (th : Int32) (px : Int32) (py : Int32) (dx : Int32) (dy : Int32) : Option Int32 :=
  (F_X2_isMet sz tu f th px py dx dy 0).bind fun r1 => if r1 = 0 then (some 0) else (FL_X2_meansJust_20 sz fo tu f th px py dx dy (fun l6_20 => some 1) gN0 0)
set_option maxRecDepth 100000 in
set_option maxHeartbeats 4000000 in
theorem t_X2_meansJust_20 (sz : Int32) (fo : Int32) (tu : Int32) (f : Nat → Int32) (th : Int32) (px : Int32) (py : Int32) (dx : Int32) (dy : Int32) (kk93 : Int32 → Option Int32) (rr : Int32)  (hk93 : ∀ (l6_20 : Int32), kk93 l6_20 = some rr → Go mX2_meansJust R_X2_meansJust (gRet mX2_meansJust (fun r0 w0 => r0 = some (.int rr) ∧ w0 = [(0, .inr (2, [.int 5, .int 10, .ref 1, .int sz, .int fo, .int tu])), (1, .inl (0, 50, .inl f))])) (93, [(0, .ref 0), (1, .int th), (2, .int px), (3, .int py), (4, .int dx), (5, .int dy), (6, .int l6_20)], [], [(0, .inr (2, [.int 5, .int 10, .ref 1, .int sz, .int fo, .int tu])), (1, .inl (0, 50, .inl f))])) : ∀ (fu : Nat) (l6_20 : Int32), FL_X2_meansJust_20 sz fo tu f th px py dx dy kk93 fu l6_20 = some rr → Go mX2_meansJust R_X2_meansJust (gRet mX2_meansJust (fun r0 w0 => r0 = some (.int rr) ∧ w0 = [(0, .inr (2, [.int 5, .int 10, .ref 1, .int sz, .int fo, .int tu])), (1, .inl (0, 50, .inl f))])) (20, [(0, .ref 0), (1, .int th), (2, .int px), (3, .int py), (4, .int dx), (5, .int dy), (6, .int l6_20)], [], [(0, .inr (2, [.int 5, .int 10, .ref 1, .int sz, .int fo, .int tu])), (1, .inl (0, 50, .inl f))]) := by
  intro fu
  induction fu with
  | zero =>
    intro l6_20 hF
    cases hF
  | succ fu ih =>
    intro l6_20 hF
    unfold FL_X2_meansJust_20 at hF
    refine Go.run qX2_meansJust IX2_ok 13 2 (23, [(0, .ref 0), (1, .int th), (2, .int px), (3, .int py), (4, .int dx), (5, .int dy), (6, .int l6_20)], [.ref 0, .int l6_20], [(0, .inr (2, [.int 5, .int 10, .ref 1, .int sz, .int fo, .int tu])), (1, .inl (0, 50, .inl f))]) [] rfl trivial ?_
    obtain ⟨r1201, h1202, hF⟩ := gbind hF
    refine Tk_u qX2_meansJust 15 rfl (c_X4_size__2 5 10 sz fo tu r1201 h1202) kX2_30_2 0 rfl rfl (gr [0, 1]) [0] rfl rfl rfl rfl ⟨rfl, rfl, by decide, by decide⟩ [.int l6_20] rfl (Nat.le_of_ble_eq_true rfl) [.int r1201, .int l6_20] rfl [(0, .inr (2, [.int 5, .int 10, .ref 1, .int sz, .int fo, .int tu])), (1, .inl (0, 50, .inl f))] rfl ?_
    refine Tc_ge qX2_meansJust 16 67 93 rfl rfl (fun hb1203 => ?_) (fun hb1203 => ?_)
    · replace hF := gpos hb1203 hF
      exact hk93 l6_20 hF
    · replace hF := gneg hb1203 hF
      refine Go.run qX2_meansJust IX2_ok 17 2 (32, [(0, .ref 0), (1, .int th), (2, .int px), (3, .int py), (4, .int dx), (5, .int dy), (6, .int l6_20)], [.int th, .int l6_20], [(0, .inr (2, [.int 5, .int 10, .ref 1, .int sz, .int fo, .int tu])), (1, .inl (0, 50, .inl f))]) [] rfl trivial ?_
      refine Tc_eq qX2_meansJust 19 29 61 rfl rfl (fun hb1204 => ?_) (fun hb1204 => ?_)
      · replace hF := gpos hb1204 hF
        refine Go.run qX2_meansJust IX2_ok 33 3 (66, [(7, .int 0), (0, .ref 0), (1, .int th), (2, .int px), (3, .int py), (4, .int dx), (5, .int dy), (6, .int l6_20)], [.int 0], [(0, .inr (2, [.int 5, .int 10, .ref 1, .int sz, .int fo, .int tu])), (1, .inl (0, 50, .inl f))]) [] rfl trivial ?_
        refine Ti_eq qX2_meansJust 36 21 87 rfl rfl (fun _ => ?_) (fun hb => absurd (by decide) hb)
        refine Go.run qX2_meansJust IX2_ok 48 2 (20, [(6, .int (l6_20 + 1)), (7, .int 0), (0, .ref 0), (1, .int th), (2, .int px), (3, .int py), (4, .int dx), (5, .int dy)], [], [(0, .inr (2, [.int 5, .int 10, .ref 1, .int sz, .int fo, .int tu])), (1, .inl (0, 50, .inl f))]) [] rfl trivial ?_
        refine Go.loc [2, 3, 4, 5, 6, 7, 0] rfl ?_
        exact ih (l6_20 + 1) hF
      · replace hF := gneg hb1204 hF
        refine Go.run qX2_meansJust IX2_ok 20 2 (39, [(0, .ref 0), (1, .int th), (2, .int px), (3, .int py), (4, .int dx), (5, .int dy), (6, .int l6_20)], [.int fo], [(0, .inr (2, [.int 5, .int 10, .ref 1, .int sz, .int fo, .int tu])), (1, .inl (0, 50, .inl f))]) [] rfl trivial ?_
        refine Ti_eq qX2_meansJust 22 18 57 rfl rfl (fun hb1205 => ?_) (fun hb1205 => ?_)
        · replace hF := gpos hb1205 hF
          refine Go.run qX2_meansJust IX2_ok 31 2 (62, [(0, .ref 0), (1, .int th), (2, .int px), (3, .int py), (4, .int dx), (5, .int dy), (6, .int l6_20)], [.int 1], [(0, .inr (2, [.int 5, .int 10, .ref 1, .int sz, .int fo, .int tu])), (1, .inl (0, 50, .inl f))]) [] rfl trivial ?_
          refine Go.run qX2_meansJust IX2_ok 34 2 (66, [(7, .int 1), (0, .ref 0), (1, .int th), (2, .int px), (3, .int py), (4, .int dx), (5, .int dy), (6, .int l6_20)], [.int 1], [(0, .inr (2, [.int 5, .int 10, .ref 1, .int sz, .int fo, .int tu])), (1, .inl (0, 50, .inl f))]) [] rfl trivial ?_
          refine Ti_eq qX2_meansJust 36 21 87 rfl rfl (fun hb => absurd hb (by decide)) (fun _ => ?_)
          refine Go.run qX2_meansJust IX2_ok 37 7 (79, [(7, .int 1), (0, .ref 0), (1, .int th), (2, .int px), (3, .int py), (4, .int dx), (5, .int dy), (6, .int l6_20)], [.int 0, .int dy, .int dx, .int py, .int px, .int l6_20, .ref 0], [(0, .inr (2, [.int 5, .int 10, .ref 1, .int sz, .int fo, .int tu])), (1, .inl (0, 50, .inl f))]) [] rfl trivial ?_
          obtain ⟨r1206, h1207, hF⟩ := gbind hF
          refine Tk_v0 qX2_meansJust 44 rfl (c_X2_isMet sz fo tu f l6_20 px py dx dy 0 r1206 h1207) kX2_34_2 0 rfl rfl [0, 1] rfl rfl rfl rfl ⟨rfl, rfl, by decide, by decide⟩ [] rfl (Nat.le_of_ble_eq_true rfl) [.int r1206] rfl [(0, .inr (2, [.int 5, .int 10, .ref 1, .int sz, .int fo, .int tu])), (1, .inl (0, 50, .inl f))] rfl ?_
          refine Ti_eq qX2_meansJust 45 5 87 rfl rfl (fun hb1208 => ?_) (fun hb1208 => ?_)
          · replace hF := gpos hb1208 hF
            refine Go.run qX2_meansJust IX2_ok 48 2 (20, [(6, .int (l6_20 + 1)), (7, .int 1), (0, .ref 0), (1, .int th), (2, .int px), (3, .int py), (4, .int dx), (5, .int dy)], [], [(0, .inr (2, [.int 5, .int 10, .ref 1, .int sz, .int fo, .int tu])), (1, .inl (0, 50, .inl f))]) [] rfl trivial ?_
            refine Go.loc [2, 3, 4, 5, 6, 7, 0] rfl ?_
            exact ih (l6_20 + 1) hF
          · replace hF := gneg hb1208 hF
            refine Go.run qX2_meansJust IX2_ok 46 1 (86, [(7, .int 1), (0, .ref 0), (1, .int th), (2, .int px), (3, .int py), (4, .int dx), (5, .int dy), (6, .int l6_20)], [.int 0], [(0, .inr (2, [.int 5, .int 10, .ref 1, .int sz, .int fo, .int tu])), (1, .inl (0, 50, .inl f))]) [] rfl trivial ?_
            obtain rfl := Option.some.inj hF
            exact Tr_z qX2_meansJust 47 rfl rfl (by decide) ⟨rfl, rfl⟩
        · replace hF := gneg hb1205 hF
          refine Go.run qX2_meansJust IX2_ok 23 6 (51, [(0, .ref 0), (1, .int th), (2, .int px), (3, .int py), (4, .int dx), (5, .int dy), (6, .int l6_20)], [.int 0, .int dy, .int dx, .int th, .int l6_20, .ref 0], [(0, .inr (2, [.int 5, .int 10, .ref 1, .int sz, .int fo, .int tu])), (1, .inl (0, 50, .inl f))]) [] rfl trivial ?_
          obtain ⟨r1209, h1210, hF⟩ := gbind hF
          refine Tk_v0 qX2_meansJust 29 rfl (c_X2_isAhead sz fo tu f l6_20 th dx dy 0 r1209 h1210) kX2_44_2 0 rfl rfl [0, 1] rfl rfl rfl rfl ⟨rfl, rfl, by decide, by decide⟩ [] rfl (Nat.le_of_ble_eq_true rfl) [.int r1209] rfl [(0, .inr (2, [.int 5, .int 10, .ref 1, .int sz, .int fo, .int tu])), (1, .inl (0, 50, .inl f))] rfl ?_
          refine Ti_eq qX2_meansJust 30 7 61 rfl rfl (fun hb1211 => ?_) (fun hb1211 => ?_)
          · replace hF := gpos hb1211 hF
            refine Go.run qX2_meansJust IX2_ok 33 3 (66, [(7, .int 0), (0, .ref 0), (1, .int th), (2, .int px), (3, .int py), (4, .int dx), (5, .int dy), (6, .int l6_20)], [.int 0], [(0, .inr (2, [.int 5, .int 10, .ref 1, .int sz, .int fo, .int tu])), (1, .inl (0, 50, .inl f))]) [] rfl trivial ?_
            refine Ti_eq qX2_meansJust 36 21 87 rfl rfl (fun _ => ?_) (fun hb => absurd (by decide) hb)
            refine Go.run qX2_meansJust IX2_ok 48 2 (20, [(6, .int (l6_20 + 1)), (7, .int 0), (0, .ref 0), (1, .int th), (2, .int px), (3, .int py), (4, .int dx), (5, .int dy)], [], [(0, .inr (2, [.int 5, .int 10, .ref 1, .int sz, .int fo, .int tu])), (1, .inl (0, 50, .inl f))]) [] rfl trivial ?_
            refine Go.loc [2, 3, 4, 5, 6, 7, 0] rfl ?_
            exact ih (l6_20 + 1) hF
          · replace hF := gneg hb1211 hF
            refine Go.run qX2_meansJust IX2_ok 31 2 (62, [(0, .ref 0), (1, .int th), (2, .int px), (3, .int py), (4, .int dx), (5, .int dy), (6, .int l6_20)], [.int 1], [(0, .inr (2, [.int 5, .int 10, .ref 1, .int sz, .int fo, .int tu])), (1, .inl (0, 50, .inl f))]) [] rfl trivial ?_
            refine Go.run qX2_meansJust IX2_ok 34 2 (66, [(7, .int 1), (0, .ref 0), (1, .int th), (2, .int px), (3, .int py), (4, .int dx), (5, .int dy), (6, .int l6_20)], [.int 1], [(0, .inr (2, [.int 5, .int 10, .ref 1, .int sz, .int fo, .int tu])), (1, .inl (0, 50, .inl f))]) [] rfl trivial ?_
            refine Ti_eq qX2_meansJust 36 21 87 rfl rfl (fun hb => absurd hb (by decide)) (fun _ => ?_)
            refine Go.run qX2_meansJust IX2_ok 37 7 (79, [(7, .int 1), (0, .ref 0), (1, .int th), (2, .int px), (3, .int py), (4, .int dx), (5, .int dy), (6, .int l6_20)], [.int 0, .int dy, .int dx, .int py, .int px, .int l6_20, .ref 0], [(0, .inr (2, [.int 5, .int 10, .ref 1, .int sz, .int fo, .int tu])), (1, .inl (0, 50, .inl f))]) [] rfl trivial ?_
            obtain ⟨r1212, h1213, hF⟩ := gbind hF
            refine Tk_v0 qX2_meansJust 44 rfl (c_X2_isMet sz fo tu f l6_20 px py dx dy 0 r1212 h1213) kX2_34_2 0 rfl rfl [0, 1] rfl rfl rfl rfl ⟨rfl, rfl, by decide, by decide⟩ [] rfl (Nat.le_of_ble_eq_true rfl) [.int r1212] rfl [(0, .inr (2, [.int 5, .int 10, .ref 1, .int sz, .int fo, .int tu])), (1, .inl (0, 50, .inl f))] rfl ?_
            refine Ti_eq qX2_meansJust 45 5 87 rfl rfl (fun hb1214 => ?_) (fun hb1214 => ?_)
            · replace hF := gpos hb1214 hF
              refine Go.run qX2_meansJust IX2_ok 48 2 (20, [(6, .int (l6_20 + 1)), (7, .int 1), (0, .ref 0), (1, .int th), (2, .int px), (3, .int py), (4, .int dx), (5, .int dy)], [], [(0, .inr (2, [.int 5, .int 10, .ref 1, .int sz, .int fo, .int tu])), (1, .inl (0, 50, .inl f))]) [] rfl trivial ?_
              refine Go.loc [2, 3, 4, 5, 6, 7, 0] rfl ?_
              exact ih (l6_20 + 1) hF
            · replace hF := gneg hb1214 hF
              refine Go.run qX2_meansJust IX2_ok 46 1 (86, [(7, .int 1), (0, .ref 0), (1, .int th), (2, .int px), (3, .int py), (4, .int dx), (5, .int dy), (6, .int l6_20)], [.int 0], [(0, .inr (2, [.int 5, .int 10, .ref 1, .int sz, .int fo, .int tu])), (1, .inl (0, 50, .inl f))]) [] rfl trivial ?_
              obtain rfl := Option.some.inj hF
              exact Tr_z qX2_meansJust 47 rfl rfl (by decide) ⟨rfl, rfl⟩
set_option maxRecDepth 100000 in
set_option maxHeartbeats 4000000 in
theorem c_X2_meansJust (sz : Int32) (fo : Int32) (tu : Int32) (f : Nat → Int32) (th : Int32) (px : Int32) (py : Int32) (dx : Int32) (dy : Int32) (rr : Int32) (hF : F_X2_meansJust sz fo tu f th px py dx dy = some rr) : Cd mX2_meansJust R_X2_meansJust [.ref 0, .int th, .int px, .int py, .int dx, .int dy] [(0, .inr (2, [.int 5, .int 10, .ref 1, .int sz, .int fo, .int tu])), (1, .inl (0, 50, .inl f))] (some (.int rr)) [(0, .inr (2, [.int 5, .int 10, .ref 1, .int sz, .int fo, .int tu])), (1, .inl (0, 50, .inl f))] := by
  unfold F_X2_meansJust at hF
  refine Ct.of rfl (Nat.le_of_ble_eq_true rfl) ?_
  refine Go.run qX2_meansJust IX2_ok 0 7 (9, [(0, .ref 0), (1, .int th), (2, .int px), (3, .int py), (4, .int dx), (5, .int dy)], [.int 0, .int dy, .int dx, .int py, .int px, .int th, .ref 0], [(0, .inr (2, [.int 5, .int 10, .ref 1, .int sz, .int fo, .int tu])), (1, .inl (0, 50, .inl f))]) [] rfl trivial ?_
  obtain ⟨r1, h2, hF⟩ := gbind hF
  refine Tk_v0 qX2_meansJust 7 rfl (c_X2_isMet sz fo tu f th px py dx dy 0 r1 h2) kX2_34_2 0 rfl rfl [0, 1] rfl rfl rfl rfl ⟨rfl, rfl, by decide, by decide⟩ [] rfl (Nat.le_of_ble_eq_true rfl) [.int r1] rfl [(0, .inr (2, [.int 5, .int 10, .ref 1, .int sz, .int fo, .int tu])), (1, .inl (0, 50, .inl f))] rfl ?_
  refine Ti_ne qX2_meansJust 8 5 17 rfl rfl (fun hb3 => ?_) (fun hb3 => ?_)
  · replace hF := gneg hb3 hF
    refine Go.run qX2_meansJust IX2_ok 11 2 (20, [(6, .int 0), (0, .ref 0), (1, .int th), (2, .int px), (3, .int py), (4, .int dx), (5, .int dy)], [], [(0, .inr (2, [.int 5, .int 10, .ref 1, .int sz, .int fo, .int tu])), (1, .inl (0, 50, .inl f))]) [] rfl trivial ?_
    refine Go.loc [1, 2, 3, 4, 5, 6, 0] rfl ?_
    refine t_X2_meansJust_20 sz fo tu f th px py dx dy _ rr (fun l6_20 hF => ?_) gN0 0 hF
    refine Go.run qX2_meansJust IX2_ok 50 1 (94, [(0, .ref 0), (1, .int th), (2, .int px), (3, .int py), (4, .int dx), (5, .int dy), (6, .int l6_20)], [.int 1], [(0, .inr (2, [.int 5, .int 10, .ref 1, .int sz, .int fo, .int tu])), (1, .inl (0, 50, .inl f))]) [] rfl trivial ?_
    obtain rfl := Option.some.inj hF
    exact Tr_z qX2_meansJust 51 rfl rfl (by decide) ⟨rfl, rfl⟩
  · replace hF := gpos hb3 hF
    refine Go.run qX2_meansJust IX2_ok 9 1 (16, [(0, .ref 0), (1, .int th), (2, .int px), (3, .int py), (4, .int dx), (5, .int dy)], [.int 0], [(0, .inr (2, [.int 5, .int 10, .ref 1, .int sz, .int fo, .int tu])), (1, .inl (0, 50, .inl f))]) [] rfl trivial ?_
    obtain rfl := Option.some.inj hF
    exact Tr_z qX2_meansJust 10 rfl rfl (by decide) ⟨rfl, rfl⟩
def R_X2_takeLaws : Room := { frames := 0, cells := 0, slots := 0, locals := 0 }
noncomputable def F_X2_takeLaws (fo2 : Int32) (tu2 : Int32) : Option (Int32 × Int32) :=
  some (fo2, tu2)
set_option maxRecDepth 100000 in
set_option maxHeartbeats 4000000 in
theorem c_X2_takeLaws (sz : Int32) (fo : Int32) (tu : Int32) (sz2 : Int32) (fo2 : Int32) (tu2 : Int32) (rr : Int32 × Int32) (hF : F_X2_takeLaws fo2 tu2 = some rr) : Cd mX2_takeLaws R_X2_takeLaws [.ref 0, .ref 2] [(0, .inr (2, [.int 5, .int 10, .ref 1, .int sz, .int fo, .int tu])), (2, .inr (2, [.int 5, .int 10, .ref 3, .int sz2, .int fo2, .int tu2]))] (none) [(0, .inr (2, [.int 5, .int 10, .ref 1, .int sz, .int rr.1, .int rr.2])), (2, .inr (2, [.int 5, .int 10, .ref 3, .int sz2, .int fo2, .int tu2]))] := by
  unfold F_X2_takeLaws at hF
  refine Ct.of rfl (Nat.le_of_ble_eq_true rfl) ?_
  refine Go.run qX2_takeLaws IX2_ok 0 8 (16, [(0, .ref 0), (1, .ref 2)], [], [(0, .inr (2, [.int 5, .int 10, .ref 1, .int sz, .int fo2, .int tu2])), (2, .inr (2, [.int 5, .int 10, .ref 3, .int sz2, .int fo2, .int tu2]))]) [] rfl trivial ?_
  obtain rfl := Option.some.inj hF
  exact Tr_v qX2_takeLaws 8 rfl rfl ⟨rfl, rfl⟩
