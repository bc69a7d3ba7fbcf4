/-! Written by wip/gen/spec.py: part 20.mo1. -/
def R_X9_in : Room := { frames := 0, cells := 0, slots := 0, locals := 0 }
noncomputable def F_X9_in (v : Int64) (lo : Int64) (hi : Int64) : Option Int32 :=
  if (lg_cmp v lo) < 0 then (some 0) else (if 0 < (lg_cmp v hi) then (some 0) else (some 1))
set_option maxRecDepth 100000 in
set_option maxHeartbeats 4000000 in
theorem c_X9_in (v : Int64) (lo : Int64) (hi : Int64) (rr : Int32) (hF : F_X9_in v lo hi = some rr) : Cd mX9_in R_X9_in [.long v, .long lo, .long hi] [] (some (.int rr)) [] := by
  unfold F_X9_in at hF
  refine Ct.of rfl (Nat.le_of_ble_eq_true rfl) ?_
  refine Go.run qX9_in IX9_ok 0 3 (3, [(0, .long v), (2, .long lo), (4, .long hi)], [.int (lg_cmp v lo)], []) [] rfl trivial ?_
  refine Ti_lt qX9_in 3 14 17 rfl rfl (fun hb1 => ?_) (fun hb1 => ?_)
  · replace hF := gpos hb1 hF
    refine Go.run qX9_in IX9_ok 10 1 (18, [(0, .long v), (2, .long lo), (4, .long hi)], [.int 0], []) [] rfl trivial ?_
    obtain rfl := Option.some.inj hF
    exact Tr_z qX9_in 11 rfl rfl (by decide) ⟨rfl, rfl⟩
  · replace hF := gneg hb1 hF
    refine Go.run qX9_in IX9_ok 4 3 (10, [(0, .long v), (2, .long lo), (4, .long hi)], [.int (lg_cmp v hi)], []) [] rfl trivial ?_
    refine Ti_gt qX9_in 7 7 17 rfl rfl (fun hb2 => ?_) (fun hb2 => ?_)
    · replace hF := gpos hb2 hF
      refine Go.run qX9_in IX9_ok 10 1 (18, [(0, .long v), (2, .long lo), (4, .long hi)], [.int 0], []) [] rfl trivial ?_
      obtain rfl := Option.some.inj hF
      exact Tr_z qX9_in 11 rfl rfl (by decide) ⟨rfl, rfl⟩
    · replace hF := gneg hb2 hF
      refine Go.run qX9_in IX9_ok 8 2 (18, [(0, .long v), (2, .long lo), (4, .long hi)], [.int 1], []) [] rfl trivial ?_
      obtain rfl := Option.some.inj hF
      exact Tr_z qX9_in 11 rfl rfl (by decide) ⟨rfl, rfl⟩
def R_X9_isFan : Room := { frames := 0, cells := 0, slots := 0, locals := 0 }
noncomputable def FL_X9_isFan_22 (kk39 : Int32 → Int32 → Option Int32) : Nat → Int32 → Int32 → Option Int32
  | 0, _, _ => none
  | fu + 1, l2_22, l3_22 => if l3_22 ≤ 0 then (kk39 l2_22 l3_22) else (if ¬ l3_22 = 0 then (FL_X9_isFan_22 kk39 fu l3_22 (grem l2_22 l3_22)) else none)
noncomputable def F_X9_isFan (dx : Int32) (dy : Int32) : Option Int32 :=
  if 0 ≤ dx then (if 0 ≤ dy then (FL_X9_isFan_22 (fun l2_22 l3_22 => if l2_22 = 1 then (some 1) else (some 0)) gN0 dx dy) else (FL_X9_isFan_22 (fun l2_22 l3_22 => if l2_22 = 1 then (some 1) else (some 0)) gN0 dx (-dy))) else (if 0 ≤ dy then (FL_X9_isFan_22 (fun l2_22 l3_22 => if l2_22 = 1 then (some 1) else (some 0)) gN0 (-dx) dy) else (FL_X9_isFan_22 (fun l2_22 l3_22 => if l2_22 = 1 then (some 1) else (some 0)) gN0 (-dx) (-dy)))
set_option maxRecDepth 100000 in
set_option maxHeartbeats 4000000 in
theorem t_X9_isFan_22 (dx : Int32) (dy : Int32) (kk39 : Int32 → Int32 → Option Int32) (rr : Int32)  (hk39 : ∀ (l2_22 : Int32) (l3_22 : Int32), kk39 l2_22 l3_22 = some rr → Go mX9_isFan R_X9_isFan (gRet mX9_isFan (fun r0 w0 => r0 = some (.int rr) ∧ w0 = [])) (39, [(0, .int dx), (1, .int dy), (2, .int l2_22), (3, .int l3_22)], [], [])) : ∀ (fu : Nat) (l2_22 : Int32) (l3_22 : Int32), FL_X9_isFan_22 kk39 fu l2_22 l3_22 = some rr → Go mX9_isFan R_X9_isFan (gRet mX9_isFan (fun r0 w0 => r0 = some (.int rr) ∧ w0 = [])) (22, [(0, .int dx), (1, .int dy), (2, .int l2_22), (3, .int l3_22)], [], []) := by
  intro fu
  induction fu with
  | zero =>
    intro l2_22 l3_22 hF
    cases hF
  | succ fu ih =>
    intro l2_22 l3_22 hF
    unfold FL_X9_isFan_22 at hF
    refine Go.run qX9_isFan IX9_ok 14 1 (23, [(0, .int dx), (1, .int dy), (2, .int l2_22), (3, .int l3_22)], [.int l3_22], []) [] rfl trivial ?_
    refine Ti_le qX9_isFan 15 16 39 rfl rfl (fun hb1221 => ?_) (fun hb1221 => ?_)
    · replace hF := gpos hb1221 hF
      exact hk39 l2_22 l3_22 hF
    · replace hF := gneg hb1221 hF
      obtain ⟨hc1222, hF⟩ := gif hF
      refine Go.run qX9_isFan IX9_ok 16 9 (22, [(3, .int (grem l2_22 l3_22)), (2, .int l3_22), (4, .int (grem l2_22 l3_22)), (0, .int dx), (1, .int dy)], [], []) [¬ l3_22 = 0] rfl ⟨hc1222, trivial⟩ ?_
      refine Go.loc [3, 4, 1, 0] rfl ?_
      exact ih l3_22 (grem l2_22 l3_22) hF
set_option maxRecDepth 100000 in
set_option maxHeartbeats 4000000 in
theorem c_X9_isFan (dx : Int32) (dy : Int32) (rr : Int32) (hF : F_X9_isFan dx dy = some rr) : Cd mX9_isFan R_X9_isFan [.int dx, .int dy] [] (some (.int rr)) [] := by
  unfold F_X9_isFan at hF
  refine Ct.of rfl (Nat.le_of_ble_eq_true rfl) ?_
  refine Go.run qX9_isFan IX9_ok 0 1 (1, [(0, .int dx), (1, .int dy)], [.int dx], []) [] rfl trivial ?_
  refine Ti_ge qX9_isFan 1 8 9 rfl rfl (fun hb1 => ?_) (fun hb1 => ?_)
  · replace hF := gpos hb1 hF
    refine Go.run qX9_isFan IX9_ok 5 3 (12, [(2, .int dx), (0, .int dx), (1, .int dy)], [.int dy], []) [] rfl trivial ?_
    refine Ti_ge qX9_isFan 8 8 20 rfl rfl (fun hb2 => ?_) (fun hb2 => ?_)
    · replace hF := gpos hb2 hF
      refine Go.run qX9_isFan IX9_ok 12 2 (22, [(3, .int dy), (2, .int dx), (0, .int dx), (1, .int dy)], [], []) [] rfl trivial ?_
      refine Go.loc [2, 3, 1, 0] rfl ?_
      refine t_X9_isFan_22 dx dy _ rr (fun l2_22 l3_22 hF => ?_) gN0 dx dy hF
      refine Go.run qX9_isFan IX9_ok 25 2 (41, [(0, .int dx), (1, .int dy), (2, .int l2_22), (3, .int l3_22)], [.int 1, .int l2_22], []) [] rfl trivial ?_
      refine Tc_ne qX9_isFan 27 7 48 rfl rfl (fun hb3 => ?_) (fun hb3 => ?_)
      · replace hF := gneg hb3 hF
        refine Go.run qX9_isFan IX9_ok 30 1 (49, [(0, .int dx), (1, .int dy), (2, .int l2_22), (3, .int l3_22)], [.int 0], []) [] rfl trivial ?_
        obtain rfl := Option.some.inj hF
        exact Tr_z qX9_isFan 31 rfl rfl (by decide) ⟨rfl, rfl⟩
      · replace hF := gpos hb3 hF
        refine Go.run qX9_isFan IX9_ok 28 2 (49, [(0, .int dx), (1, .int dy), (2, .int l2_22), (3, .int l3_22)], [.int 1], []) [] rfl trivial ?_
        obtain rfl := Option.some.inj hF
        exact Tr_z qX9_isFan 31 rfl rfl (by decide) ⟨rfl, rfl⟩
    · replace hF := gneg hb2 hF
      refine Go.run qX9_isFan IX9_ok 9 3 (21, [(2, .int dx), (0, .int dx), (1, .int dy)], [.int (-dy)], []) [] rfl trivial ?_
      refine Go.run qX9_isFan IX9_ok 13 1 (22, [(3, .int (-dy)), (2, .int dx), (0, .int dx), (1, .int dy)], [], []) [] rfl trivial ?_
      refine Go.loc [2, 3, 1, 0] rfl ?_
      refine t_X9_isFan_22 dx dy _ rr (fun l2_22 l3_22 hF => ?_) gN0 dx (-dy) hF
      refine Go.run qX9_isFan IX9_ok 25 2 (41, [(0, .int dx), (1, .int dy), (2, .int l2_22), (3, .int l3_22)], [.int 1, .int l2_22], []) [] rfl trivial ?_
      refine Tc_ne qX9_isFan 27 7 48 rfl rfl (fun hb4 => ?_) (fun hb4 => ?_)
      · replace hF := gneg hb4 hF
        refine Go.run qX9_isFan IX9_ok 30 1 (49, [(0, .int dx), (1, .int dy), (2, .int l2_22), (3, .int l3_22)], [.int 0], []) [] rfl trivial ?_
        obtain rfl := Option.some.inj hF
        exact Tr_z qX9_isFan 31 rfl rfl (by decide) ⟨rfl, rfl⟩
      · replace hF := gpos hb4 hF
        refine Go.run qX9_isFan IX9_ok 28 2 (49, [(0, .int dx), (1, .int dy), (2, .int l2_22), (3, .int l3_22)], [.int 1], []) [] rfl trivial ?_
        obtain rfl := Option.some.inj hF
        exact Tr_z qX9_isFan 31 rfl rfl (by decide) ⟨rfl, rfl⟩
  · replace hF := gneg hb1 hF
    refine Go.run qX9_isFan IX9_ok 2 3 (10, [(0, .int dx), (1, .int dy)], [.int (-dx)], []) [] rfl trivial ?_
    refine Go.run qX9_isFan IX9_ok 6 2 (12, [(2, .int (-dx)), (0, .int dx), (1, .int dy)], [.int dy], []) [] rfl trivial ?_
    refine Ti_ge qX9_isFan 8 8 20 rfl rfl (fun hb5 => ?_) (fun hb5 => ?_)
    · replace hF := gpos hb5 hF
      refine Go.run qX9_isFan IX9_ok 12 2 (22, [(3, .int dy), (2, .int (-dx)), (0, .int dx), (1, .int dy)], [], []) [] rfl trivial ?_
      refine Go.loc [2, 3, 1, 0] rfl ?_
      refine t_X9_isFan_22 dx dy _ rr (fun l2_22 l3_22 hF => ?_) gN0 (-dx) dy hF
      refine Go.run qX9_isFan IX9_ok 25 2 (41, [(0, .int dx), (1, .int dy), (2, .int l2_22), (3, .int l3_22)], [.int 1, .int l2_22], []) [] rfl trivial ?_
      refine Tc_ne qX9_isFan 27 7 48 rfl rfl (fun hb6 => ?_) (fun hb6 => ?_)
      · replace hF := gneg hb6 hF
        refine Go.run qX9_isFan IX9_ok 30 1 (49, [(0, .int dx), (1, .int dy), (2, .int l2_22), (3, .int l3_22)], [.int 0], []) [] rfl trivial ?_
        obtain rfl := Option.some.inj hF
        exact Tr_z qX9_isFan 31 rfl rfl (by decide) ⟨rfl, rfl⟩
      · replace hF := gpos hb6 hF
        refine Go.run qX9_isFan IX9_ok 28 2 (49, [(0, .int dx), (1, .int dy), (2, .int l2_22), (3, .int l3_22)], [.int 1], []) [] rfl trivial ?_
        obtain rfl := Option.some.inj hF
        exact Tr_z qX9_isFan 31 rfl rfl (by decide) ⟨rfl, rfl⟩
    · replace hF := gneg hb5 hF
      refine Go.run qX9_isFan IX9_ok 9 3 (21, [(2, .int (-dx)), (0, .int dx), (1, .int dy)], [.int (-dy)], []) [] rfl trivial ?_
      refine Go.run qX9_isFan IX9_ok 13 1 (22, [(3, .int (-dy)), (2, .int (-dx)), (0, .int dx), (1, .int dy)], [], []) [] rfl trivial ?_
      refine Go.loc [2, 3, 1, 0] rfl ?_
      refine t_X9_isFan_22 dx dy _ rr (fun l2_22 l3_22 hF => ?_) gN0 (-dx) (-dy) hF
      refine Go.run qX9_isFan IX9_ok 25 2 (41, [(0, .int dx), (1, .int dy), (2, .int l2_22), (3, .int l3_22)], [.int 1, .int l2_22], []) [] rfl trivial ?_
      refine Tc_ne qX9_isFan 27 7 48 rfl rfl (fun hb7 => ?_) (fun hb7 => ?_)
      · replace hF := gneg hb7 hF
        refine Go.run qX9_isFan IX9_ok 30 1 (49, [(0, .int dx), (1, .int dy), (2, .int l2_22), (3, .int l3_22)], [.int 0], []) [] rfl trivial ?_
        obtain rfl := Option.some.inj hF
        exact Tr_z qX9_isFan 31 rfl rfl (by decide) ⟨rfl, rfl⟩
      · replace hF := gpos hb7 hF
        refine Go.run qX9_isFan IX9_ok 28 2 (49, [(0, .int dx), (1, .int dy), (2, .int l2_22), (3, .int l3_22)], [.int 1], []) [] rfl trivial ?_
        obtain rfl := Option.some.inj hF
        exact Tr_z qX9_isFan 31 rfl rfl (by decide) ⟨rfl, rfl⟩
def R_X9_isPoint : Room := { frames := 1, cells := 0, slots := 0, locals := 25 }
noncomputable def F_X9_isPoint (x : Int32) (y : Int32) : Option Int32 :=
  (F_X9_in x.toInt64 0 20).bind fun r1 => if r1 = 0 then (some 0) else ((F_X9_in y.toInt64 0 20).bind fun r4 => if r4 = 0 then (some 0) else (some 1))
set_option maxRecDepth 100000 in
set_option maxHeartbeats 4000000 in
theorem c_X9_isPoint (x : Int32) (y : Int32) (rr : Int32) (hF : F_X9_isPoint x y = some rr) : Cd mX9_isPoint R_X9_isPoint [.int x, .int y] [] (some (.int rr)) [] := by
  unfold F_X9_isPoint at hF
  refine Ct.of rfl (Nat.le_of_ble_eq_true rfl) ?_
  refine Go.run qX9_isPoint IX9_ok 0 4 (6, [(0, .int x), (1, .int y)], [.long 20, .long 0, .long x.toInt64], []) [] rfl trivial ?_
  obtain ⟨r1, h2, hF⟩ := gbind hF
  refine Tk_s qX9_isPoint 4 rfl (c_X9_in x.toInt64 0 20 r1 h2) kX9_84 (gr []) [] rfl rfl rfl rfl ⟨rfl, rfl, by decide, by decide⟩ [] rfl (Nat.le_of_ble_eq_true rfl) [.int r1] rfl [] rfl ?_
  refine Ti_eq qX9_isPoint 5 19 28 rfl rfl (fun hb3 => ?_) (fun hb3 => ?_)
  · replace hF := gpos hb3 hF
    refine Go.run qX9_isPoint IX9_ok 14 1 (29, [(0, .int x), (1, .int y)], [.int 0], []) [] rfl trivial ?_
    obtain rfl := Option.some.inj hF
    exact Tr_z qX9_isPoint 15 rfl rfl (by decide) ⟨rfl, rfl⟩
  · replace hF := gneg hb3 hF
    refine Go.run qX9_isPoint IX9_ok 6 4 (18, [(0, .int x), (1, .int y)], [.long 20, .long 0, .long y.toInt64], []) [] rfl trivial ?_
    obtain ⟨r4, h5, hF⟩ := gbind hF
    refine Tk_s qX9_isPoint 10 rfl (c_X9_in y.toInt64 0 20 r4 h5) kX9_84 (gr []) [] rfl rfl rfl rfl ⟨rfl, rfl, by decide, by decide⟩ [] rfl (Nat.le_of_ble_eq_true rfl) [.int r4] rfl [] rfl ?_
    refine Ti_eq qX9_isPoint 11 7 28 rfl rfl (fun hb6 => ?_) (fun hb6 => ?_)
    · replace hF := gpos hb6 hF
      refine Go.run qX9_isPoint IX9_ok 14 1 (29, [(0, .int x), (1, .int y)], [.int 0], []) [] rfl trivial ?_
      obtain rfl := Option.some.inj hF
      exact Tr_z qX9_isPoint 15 rfl rfl (by decide) ⟨rfl, rfl⟩
    · replace hF := gneg hb6 hF
      refine Go.run qX9_isPoint IX9_ok 12 2 (29, [(0, .int x), (1, .int y)], [.int 1], []) [] rfl trivial ?_
      obtain rfl := Option.some.inj hF
      exact Tr_z qX9_isPoint 15 rfl rfl (by decide) ⟨rfl, rfl⟩
def R_X9_isThing : Room := { frames := 1, cells := 0, slots := 0, locals := 25 }
noncomputable def F_X9_isThing (m_things : Int32) (th : Int32) : Option Int32 :=
  (F_X9_in th.toInt64 0 ((m_things - 1).toInt64)).bind fun r1 => if r1 &&& 1 = r1 then some r1 else none
set_option maxRecDepth 100000 in
set_option maxHeartbeats 4000000 in
theorem c_X9_isThing (m_fans : Int32) (m_things : Int32) (m_people : Int32) (m_sentences : Int32) (m_stalls : Int32) (m_told : Int32) (m_taped : Int32) (m_at : Int32) (m_wrong : Int32) (m_isImage : Int32) (th : Int32) (rr : Int32) (hF : F_X9_isThing m_things th = some rr) : Cd mX9_isThing R_X9_isThing [.ref 0, .int th] [(0, .inr (9, [.int m_fans, .ref 1, .int m_things, .ref 2, .int m_people, .ref 3, .ref 4, .ref 5, .int m_sentences, .ref 6, .ref 7, .int m_stalls, .ref 8, .ref 9, .int m_told, .ref 10, .ref 11, .int m_taped, .int m_at, .int m_wrong, .ref 12, .ref 13, .ref 14, .ref 15, .ref 16, .ref 17, .int m_isImage, .ref 18, .ref 19, .ref 20, .ref 21]))] (some (.int rr)) [(0, .inr (9, [.int m_fans, .ref 1, .int m_things, .ref 2, .int m_people, .ref 3, .ref 4, .ref 5, .int m_sentences, .ref 6, .ref 7, .int m_stalls, .ref 8, .ref 9, .int m_told, .ref 10, .ref 11, .int m_taped, .int m_at, .int m_wrong, .ref 12, .ref 13, .ref 14, .ref 15, .ref 16, .ref 17, .int m_isImage, .ref 18, .ref 19, .ref 20, .ref 21]))] := by
  unfold F_X9_isThing at hF
  refine Ct.of rfl (Nat.le_of_ble_eq_true rfl) ?_
  refine Go.run qX9_isThing IX9_ok 0 8 (10, [(0, .ref 0), (1, .int th)], [.long (m_things - 1).toInt64, .long 0, .long th.toInt64], [(0, .inr (9, [.int m_fans, .ref 1, .int m_things, .ref 2, .int m_people, .ref 3, .ref 4, .ref 5, .int m_sentences, .ref 6, .ref 7, .int m_stalls, .ref 8, .ref 9, .int m_told, .ref 10, .ref 11, .int m_taped, .int m_at, .int m_wrong, .ref 12, .ref 13, .ref 14, .ref 15, .ref 16, .ref 17, .int m_isImage, .ref 18, .ref 19, .ref 20, .ref 21]))]) [] rfl trivial ?_
  obtain ⟨r1, h2, hF⟩ := gbind hF
  refine Tk_s qX9_isThing 8 rfl (c_X9_in th.toInt64 0 ((m_things - 1).toInt64) r1 h2) kX9_84 (gr []) [] rfl rfl rfl rfl ⟨rfl, rfl, by decide, by decide⟩ [] rfl (Nat.le_of_ble_eq_true rfl) [.int r1] rfl [(0, .inr (9, [.int m_fans, .ref 1, .int m_things, .ref 2, .int m_people, .ref 3, .ref 4, .ref 5, .int m_sentences, .ref 6, .ref 7, .int m_stalls, .ref 8, .ref 9, .int m_told, .ref 10, .ref 11, .int m_taped, .int m_at, .int m_wrong, .ref 12, .ref 13, .ref 14, .ref 15, .ref 16, .ref 17, .int m_isImage, .ref 18, .ref 19, .ref 20, .ref 21]))] rfl ?_
  obtain ⟨hz3, hF⟩ := gif hF
  obtain rfl := Option.some.inj hF
  exact Tr_z qX9_isThing 9 rfl rfl hz3 ⟨rfl, rfl⟩
def R_X9_isOne : Room := { frames := 1, cells := 0, slots := 0, locals := 25 }
noncomputable def F_X9_isOne (m_people : Int32) (p : Int32) : Option Int32 :=
  (F_X9_in p.toInt64 0 ((m_people - 1).toInt64)).bind fun r1 => if r1 &&& 1 = r1 then some r1 else none
set_option maxRecDepth 100000 in
set_option maxHeartbeats 4000000 in
theorem c_X9_isOne (m_fans : Int32) (m_things : Int32) (m_people : Int32) (m_sentences : Int32) (m_stalls : Int32) (m_told : Int32) (m_taped : Int32) (m_at : Int32) (m_wrong : Int32) (m_isImage : Int32) (p : Int32) (rr : Int32) (hF : F_X9_isOne m_people p = some rr) : Cd mX9_isOne R_X9_isOne [.ref 0, .int p] [(0, .inr (9, [.int m_fans, .ref 1, .int m_things, .ref 2, .int m_people, .ref 3, .ref 4, .ref 5, .int m_sentences, .ref 6, .ref 7, .int m_stalls, .ref 8, .ref 9, .int m_told, .ref 10, .ref 11, .int m_taped, .int m_at, .int m_wrong, .ref 12, .ref 13, .ref 14, .ref 15, .ref 16, .ref 17, .int m_isImage, .ref 18, .ref 19, .ref 20, .ref 21]))] (some (.int rr)) [(0, .inr (9, [.int m_fans, .ref 1, .int m_things, .ref 2, .int m_people, .ref 3, .ref 4, .ref 5, .int m_sentences, .ref 6, .ref 7, .int m_stalls, .ref 8, .ref 9, .int m_told, .ref 10, .ref 11, .int m_taped, .int m_at, .int m_wrong, .ref 12, .ref 13, .ref 14, .ref 15, .ref 16, .ref 17, .int m_isImage, .ref 18, .ref 19, .ref 20, .ref 21]))] := by
  unfold F_X9_isOne at hF
  refine Ct.of rfl (Nat.le_of_ble_eq_true rfl) ?_
  refine Go.run qX9_isOne IX9_ok 0 8 (10, [(0, .ref 0), (1, .int p)], [.long (m_people - 1).toInt64, .long 0, .long p.toInt64], [(0, .inr (9, [.int m_fans, .ref 1, .int m_things, .ref 2, .int m_people, .ref 3, .ref 4, .ref 5, .int m_sentences, .ref 6, .ref 7, .int m_stalls, .ref 8, .ref 9, .int m_told, .ref 10, .ref 11, .int m_taped, .int m_at, .int m_wrong, .ref 12, .ref 13, .ref 14, .ref 15, .ref 16, .ref 17, .int m_isImage, .ref 18, .ref 19, .ref 20, .ref 21]))]) [] rfl trivial ?_
  obtain ⟨r1, h2, hF⟩ := gbind hF
  refine Tk_s qX9_isOne 8 rfl (c_X9_in p.toInt64 0 ((m_people - 1).toInt64) r1 h2) kX9_84 (gr []) [] rfl rfl rfl rfl ⟨rfl, rfl, by decide, by decide⟩ [] rfl (Nat.le_of_ble_eq_true rfl) [.int r1] rfl [(0, .inr (9, [.int m_fans, .ref 1, .int m_things, .ref 2, .int m_people, .ref 3, .ref 4, .ref 5, .int m_sentences, .ref 6, .ref 7, .int m_stalls, .ref 8, .ref 9, .int m_told, .ref 10, .ref 11, .int m_taped, .int m_at, .int m_wrong, .ref 12, .ref 13, .ref 14, .ref 15, .ref 16, .ref 17, .int m_isImage, .ref 18, .ref 19, .ref 20, .ref 21]))] rfl ?_
  obtain ⟨hz3, hF⟩ := gif hF
  obtain rfl := Option.some.inj hF
  exact Tr_z qX9_isOne 9 rfl rfl hz3 ⟨rfl, rfl⟩
def R_X9_isArm : Room := { frames := 1, cells := 0, slots := 0, locals := 25 }
noncomputable def F_X9_isArm (dx : Int64) (dy : Int64) : Option Int32 :=
  (F_X9_in dx (-9) 9).bind fun r1 => if r1 = 0 then (some 0) else ((F_X9_in dy (-9) 9).bind fun r4 => if r4 = 0 then (some 0) else (if (lg_cmp dx 0) = 0 then (if (lg_cmp dy 0) = 0 then (some 0) else (some 1)) else (some 1)))
set_option maxRecDepth 100000 in
set_option maxHeartbeats 4000000 in
theorem c_X9_isArm (dx : Int64) (dy : Int64) (rr : Int32) (hF : F_X9_isArm dx dy = some rr) : Cd mX9_isArm R_X9_isArm [.long dx, .long dy] [] (some (.int rr)) [] := by
  unfold F_X9_isArm at hF
  refine Ct.of rfl (Nat.le_of_ble_eq_true rfl) ?_
  refine Go.run qX9_isArm IX9_ok 0 3 (7, [(0, .long dx), (2, .long dy)], [.long 9, .long (-9), .long dx], []) [] rfl trivial ?_
  obtain ⟨r1, h2, hF⟩ := gbind hF
  refine Tk_s qX9_isArm 3 rfl (c_X9_in dx (-9) 9 r1 h2) kX9_84 (gr []) [] rfl rfl rfl rfl ⟨rfl, rfl, by decide, by decide⟩ [] rfl (Nat.le_of_ble_eq_true rfl) [.int r1] rfl [] rfl ?_
  refine Ti_eq qX9_isArm 4 32 42 rfl rfl (fun hb3 => ?_) (fun hb3 => ?_)
  · replace hF := gpos hb3 hF
    refine Go.run qX9_isArm IX9_ok 20 1 (43, [(0, .long dx), (2, .long dy)], [.int 0], []) [] rfl trivial ?_
    obtain rfl := Option.some.inj hF
    exact Tr_z qX9_isArm 21 rfl rfl (by decide) ⟨rfl, rfl⟩
  · replace hF := gneg hb3 hF
    refine Go.run qX9_isArm IX9_ok 5 3 (20, [(0, .long dx), (2, .long dy)], [.long 9, .long (-9), .long dy], []) [] rfl trivial ?_
    obtain ⟨r4, h5, hF⟩ := gbind hF
    refine Tk_s qX9_isArm 8 rfl (c_X9_in dy (-9) 9 r4 h5) kX9_84 (gr []) [] rfl rfl rfl rfl ⟨rfl, rfl, by decide, by decide⟩ [] rfl (Nat.le_of_ble_eq_true rfl) [.int r4] rfl [] rfl ?_
    refine Ti_eq qX9_isArm 9 19 42 rfl rfl (fun hb6 => ?_) (fun hb6 => ?_)
    · replace hF := gpos hb6 hF
      refine Go.run qX9_isArm IX9_ok 20 1 (43, [(0, .long dx), (2, .long dy)], [.int 0], []) [] rfl trivial ?_
      obtain rfl := Option.some.inj hF
      exact Tr_z qX9_isArm 21 rfl rfl (by decide) ⟨rfl, rfl⟩
    · replace hF := gneg hb6 hF
      refine Go.run qX9_isArm IX9_ok 10 3 (29, [(0, .long dx), (2, .long dy)], [.int (lg_cmp dx 0)], []) [] rfl trivial ?_
      refine Ti_ne qX9_isArm 13 9 38 rfl rfl (fun hb7 => ?_) (fun hb7 => ?_)
      · replace hF := gneg hb7 hF
        refine Go.run qX9_isArm IX9_ok 18 2 (43, [(0, .long dx), (2, .long dy)], [.int 1], []) [] rfl trivial ?_
        obtain rfl := Option.some.inj hF
        exact Tr_z qX9_isArm 21 rfl rfl (by decide) ⟨rfl, rfl⟩
      · replace hF := gpos hb7 hF
        refine Go.run qX9_isArm IX9_ok 14 3 (35, [(0, .long dx), (2, .long dy)], [.int (lg_cmp dy 0)], []) [] rfl trivial ?_
        refine Ti_eq qX9_isArm 17 7 42 rfl rfl (fun hb8 => ?_) (fun hb8 => ?_)
        · replace hF := gpos hb8 hF
          refine Go.run qX9_isArm IX9_ok 20 1 (43, [(0, .long dx), (2, .long dy)], [.int 0], []) [] rfl trivial ?_
          obtain rfl := Option.some.inj hF
          exact Tr_z qX9_isArm 21 rfl rfl (by decide) ⟨rfl, rfl⟩
        · replace hF := gneg hb8 hF
          refine Go.run qX9_isArm IX9_ok 18 2 (43, [(0, .long dx), (2, .long dy)], [.int 1], []) [] rfl trivial ?_
          obtain rfl := Option.some.inj hF
          exact Tr_z qX9_isArm 21 rfl rfl (by decide) ⟨rfl, rfl⟩
def R_X9_isTick : Room := { frames := 1, cells := 0, slots := 0, locals := 25 }
noncomputable def F_X9_isTick (t : Int32) : Option Int32 :=
  (F_X9_in t.toInt64 0 60).bind fun r1 => if r1 &&& 1 = r1 then some r1 else none
set_option maxRecDepth 100000 in
set_option maxHeartbeats 4000000 in
theorem c_X9_isTick (t : Int32) (rr : Int32) (hF : F_X9_isTick t = some rr) : Cd mX9_isTick R_X9_isTick [.int t] [] (some (.int rr)) [] := by
  unfold F_X9_isTick at hF
  refine Ct.of rfl (Nat.le_of_ble_eq_true rfl) ?_
  refine Go.run qX9_isTick IX9_ok 0 4 (6, [(0, .int t)], [.long 60, .long 0, .long t.toInt64], []) [] rfl trivial ?_
  obtain ⟨r1, h2, hF⟩ := gbind hF
  refine Tk_s qX9_isTick 4 rfl (c_X9_in t.toInt64 0 60 r1 h2) kX9_84 (gr []) [] rfl rfl rfl rfl ⟨rfl, rfl, by decide, by decide⟩ [] rfl (Nat.le_of_ble_eq_true rfl) [.int r1] rfl [] rfl ?_
  obtain ⟨hz3, hF⟩ := gif hF
  obtain rfl := Option.some.inj hF
  exact Tr_z qX9_isTick 5 rfl rfl hz3 ⟨rfl, rfl⟩
def R_X9_comes : Room := { frames := 0, cells := 0, slots := 0, locals := 0 }
noncomputable def F_X9_comes (m_parts : Nat → Int32) (th : Int32) (x : Int32) (y : Int32) (br : Int32) : Option ((Nat → Int32)) :=
  if gvp (5 * th) 50 then (if gvp ((5 * th) + 1) 50 then (if gvp ((5 * th) + 2) 50 then (if gvp ((5 * th) + 3) 50 then (if gvp ((5 * th) + 4) 50 then (some (upd (upd (upd (upd (upd m_parts (5 * th).toNatClampNeg x) ((5 * th) + 1).toNatClampNeg y) ((5 * th) + 2).toNatClampNeg br) ((5 * th) + 3).toNatClampNeg 0) ((5 * th) + 4).toNatClampNeg 0)) else none) else none) else none) else none) else none
set_option maxRecDepth 100000 in
set_option maxHeartbeats 4000000 in
theorem c_X9_comes (m_fans : Int32) (m_things : Int32) (m_people : Int32) (m_sentences : Int32) (m_stalls : Int32) (m_told : Int32) (m_taped : Int32) (m_at : Int32) (m_wrong : Int32) (m_isImage : Int32) (m_parts : Nat → Int32) (th : Int32) (x : Int32) (y : Int32) (br : Int32) (rr : (Nat → Int32)) (hF : F_X9_comes m_parts th x y br = some rr) : Cd mX9_comes R_X9_comes [.ref 0, .int th, .int x, .int y, .int br] [(0, .inr (9, [.int m_fans, .ref 1, .int m_things, .ref 2, .int m_people, .ref 3, .ref 4, .ref 5, .int m_sentences, .ref 6, .ref 7, .int m_stalls, .ref 8, .ref 9, .int m_told, .ref 10, .ref 11, .int m_taped, .int m_at, .int m_wrong, .ref 12, .ref 13, .ref 14, .ref 15, .ref 16, .ref 17, .int m_isImage, .ref 18, .ref 19, .ref 20, .ref 21])), (2, .inl (0, 50, .inl m_parts))] (none) [(0, .inr (9, [.int m_fans, .ref 1, .int m_things, .ref 2, .int m_people, .ref 3, .ref 4, .ref 5, .int m_sentences, .ref 6, .ref 7, .int m_stalls, .ref 8, .ref 9, .int m_told, .ref 10, .ref 11, .int m_taped, .int m_at, .int m_wrong, .ref 12, .ref 13, .ref 14, .ref 15, .ref 16, .ref 17, .int m_isImage, .ref 18, .ref 19, .ref 20, .ref 21])), (2, .inl (0, 50, .inl rr))] := by
  unfold F_X9_comes at hF
  refine Ct.of rfl (Nat.le_of_ble_eq_true rfl) ?_
  obtain ⟨hc1, hF⟩ := gif hF
  obtain ⟨hc2, hF⟩ := gif hF
  obtain ⟨hc3, hF⟩ := gif hF
  obtain ⟨hc4, hF⟩ := gif hF
  obtain ⟨hc5, hF⟩ := gif hF
  refine Go.run qX9_comes IX9_ok 0 43 (54, [(0, .ref 0), (1, .int th), (2, .int x), (3, .int y), (4, .int br)], [], [(0, .inr (9, [.int m_fans, .ref 1, .int m_things, .ref 2, .int m_people, .ref 3, .ref 4, .ref 5, .int m_sentences, .ref 6, .ref 7, .int m_stalls, .ref 8, .ref 9, .int m_told, .ref 10, .ref 11, .int m_taped, .int m_at, .int m_wrong, .ref 12, .ref 13, .ref 14, .ref 15, .ref 16, .ref 17, .int m_isImage, .ref 18, .ref 19, .ref 20, .ref 21])), (2, .inl (0, 50, .inl (upd (upd (upd (upd (upd m_parts (5 * th).toNatClampNeg x) ((5 * th) + 1).toNatClampNeg y) ((5 * th) + 2).toNatClampNeg br) ((5 * th) + 3).toNatClampNeg 0) ((5 * th) + 4).toNatClampNeg 0)))]) [gvp (5 * th) 50, gvp ((5 * th) + 1) 50, gvp ((5 * th) + 2) 50, gvp ((5 * th) + 3) 50, gvp ((5 * th) + 4) 50] rfl ⟨hc1, hc2, hc3, hc4, hc5, trivial⟩ ?_
  obtain rfl := Option.some.inj hF
  exact Tr_v qX9_comes 43 rfl rfl ⟨rfl, rfl⟩
def R_X9_thing : Room := { frames := 2, cells := 0, slots := 0, locals := 46 }
noncomputable def F_X9_thing (m_things : Int32) (m_parts : Nat → Int32) (x : Int32) (y : Int32) (br : Int32) : Option (Int32 × Int32 × (Nat → Int32)) :=
  (F_X9_isPoint x y).bind fun r1 => if r1 = 0 then (some ((-1), m_things, m_parts)) else ((F_X9_in br.toInt64 0 5).bind fun r4 => if r4 = 0 then (some ((-1), m_things, m_parts)) else (if m_things = 10 then (some ((-3), m_things, m_parts)) else ((F_X9_comes m_parts m_things x y br).bind fun r8 => some (((m_things + 1) - 1), (m_things + 1), r8))))
set_option maxRecDepth 100000 in
set_option maxHeartbeats 4000000 in
theorem c_X9_thing (m_fans : Int32) (m_things : Int32) (m_people : Int32) (m_sentences : Int32) (m_stalls : Int32) (m_told : Int32) (m_taped : Int32) (m_at : Int32) (m_wrong : Int32) (m_isImage : Int32) (m_parts : Nat → Int32) (x : Int32) (y : Int32) (br : Int32) (rr : Int32 × Int32 × (Nat → Int32)) (hF : F_X9_thing m_things m_parts x y br = some rr) : Cd mX9_thing R_X9_thing [.ref 0, .int x, .int y, .int br] [(0, .inr (9, [.int m_fans, .ref 1, .int m_things, .ref 2, .int m_people, .ref 3, .ref 4, .ref 5, .int m_sentences, .ref 6, .ref 7, .int m_stalls, .ref 8, .ref 9, .int m_told, .ref 10, .ref 11, .int m_taped, .int m_at, .int m_wrong, .ref 12, .ref 13, .ref 14, .ref 15, .ref 16, .ref 17, .int m_isImage, .ref 18, .ref 19, .ref 20, .ref 21])), (2, .inl (0, 50, .inl m_parts))] (some (.int rr.1)) [(0, .inr (9, [.int m_fans, .ref 1, .int rr.2.1, .ref 2, .int m_people, .ref 3, .ref 4, .ref 5, .int m_sentences, .ref 6, .ref 7, .int m_stalls, .ref 8, .ref 9, .int m_told, .ref 10, .ref 11, .int m_taped, .int m_at, .int m_wrong, .ref 12, .ref 13, .ref 14, .ref 15, .ref 16, .ref 17, .int m_isImage, .ref 18, .ref 19, .ref 20, .ref 21])), (2, .inl (0, 50, .inl rr.2.2))] := by
  unfold F_X9_thing at hF
  refine Ct.of rfl (Nat.le_of_ble_eq_true rfl) ?_
  refine Go.run qX9_thing IX9_ok 0 2 (2, [(0, .ref 0), (1, .int x), (2, .int y), (3, .int br)], [.int y, .int x], [(0, .inr (9, [.int m_fans, .ref 1, .int m_things, .ref 2, .int m_people, .ref 3, .ref 4, .ref 5, .int m_sentences, .ref 6, .ref 7, .int m_stalls, .ref 8, .ref 9, .int m_told, .ref 10, .ref 11, .int m_taped, .int m_at, .int m_wrong, .ref 12, .ref 13, .ref 14, .ref 15, .ref 16, .ref 17, .int m_isImage, .ref 18, .ref 19, .ref 20, .ref 21])), (2, .inl (0, 50, .inl m_parts))]) [] rfl trivial ?_
  obtain ⟨r1, h2, hF⟩ := gbind hF
  refine Tk_s qX9_thing 2 rfl (c_X9_isPoint x y r1 h2) kX9_100 (gr []) [] rfl rfl rfl rfl ⟨rfl, rfl, by decide, by decide⟩ [] rfl (Nat.le_of_ble_eq_true rfl) [.int r1] rfl [(0, .inr (9, [.int m_fans, .ref 1, .int m_things, .ref 2, .int m_people, .ref 3, .ref 4, .ref 5, .int m_sentences, .ref 6, .ref 7, .int m_stalls, .ref 8, .ref 9, .int m_told, .ref 10, .ref 11, .int m_taped, .int m_at, .int m_wrong, .ref 12, .ref 13, .ref 14, .ref 15, .ref 16, .ref 17, .int m_isImage, .ref 18, .ref 19, .ref 20, .ref 21])), (2, .inl (0, 50, .inl m_parts))] rfl ?_
  refine Ti_eq qX9_thing 3 15 20 rfl rfl (fun hb3 => ?_) (fun hb3 => ?_)
  · replace hF := gpos hb3 hF
    refine Go.run qX9_thing IX9_ok 10 1 (21, [(0, .ref 0), (1, .int x), (2, .int y), (3, .int br)], [.int (-1)], [(0, .inr (9, [.int m_fans, .ref 1, .int m_things, .ref 2, .int m_people, .ref 3, .ref 4, .ref 5, .int m_sentences, .ref 6, .ref 7, .int m_stalls, .ref 8, .ref 9, .int m_told, .ref 10, .ref 11, .int m_taped, .int m_at, .int m_wrong, .ref 12, .ref 13, .ref 14, .ref 15, .ref 16, .ref 17, .int m_isImage, .ref 18, .ref 19, .ref 20, .ref 21])), (2, .inl (0, 50, .inl m_parts))]) [] rfl trivial ?_
    obtain rfl := Option.some.inj hF
    exact Tr_i qX9_thing 11 rfl rfl ⟨rfl, rfl⟩
  · replace hF := gneg hb3 hF
    refine Go.run qX9_thing IX9_ok 4 4 (14, [(0, .ref 0), (1, .int x), (2, .int y), (3, .int br)], [.long 5, .long 0, .long br.toInt64], [(0, .inr (9, [.int m_fans, .ref 1, .int m_things, .ref 2, .int m_people, .ref 3, .ref 4, .ref 5, .int m_sentences, .ref 6, .ref 7, .int m_stalls, .ref 8, .ref 9, .int m_told, .ref 10, .ref 11, .int m_taped, .int m_at, .int m_wrong, .ref 12, .ref 13, .ref 14, .ref 15, .ref 16, .ref 17, .int m_isImage, .ref 18, .ref 19, .ref 20, .ref 21])), (2, .inl (0, 50, .inl m_parts))]) [] rfl trivial ?_
    obtain ⟨r4, h5, hF⟩ := gbind hF
    refine Tk_s qX9_thing 8 rfl (c_X9_in br.toInt64 0 5 r4 h5) kX9_84 (gr []) [] rfl rfl rfl rfl ⟨rfl, rfl, by decide, by decide⟩ [] rfl (Nat.le_of_ble_eq_true rfl) [.int r4] rfl [(0, .inr (9, [.int m_fans, .ref 1, .int m_things, .ref 2, .int m_people, .ref 3, .ref 4, .ref 5, .int m_sentences, .ref 6, .ref 7, .int m_stalls, .ref 8, .ref 9, .int m_told, .ref 10, .ref 11, .int m_taped, .int m_at, .int m_wrong, .ref 12, .ref 13, .ref 14, .ref 15, .ref 16, .ref 17, .int m_isImage, .ref 18, .ref 19, .ref 20, .ref 21])), (2, .inl (0, 50, .inl m_parts))] rfl ?_
    refine Ti_ne qX9_thing 9 5 22 rfl rfl (fun hb6 => ?_) (fun hb6 => ?_)
    · replace hF := gneg hb6 hF
      refine Go.run qX9_thing IX9_ok 12 3 (28, [(0, .ref 0), (1, .int x), (2, .int y), (3, .int br)], [.int 10, .int m_things], [(0, .inr (9, [.int m_fans, .ref 1, .int m_things, .ref 2, .int m_people, .ref 3, .ref 4, .ref 5, .int m_sentences, .ref 6, .ref 7, .int m_stalls, .ref 8, .ref 9, .int m_told, .ref 10, .ref 11, .int m_taped, .int m_at, .int m_wrong, .ref 12, .ref 13, .ref 14, .ref 15, .ref 16, .ref 17, .int m_isImage, .ref 18, .ref 19, .ref 20, .ref 21])), (2, .inl (0, 50, .inl m_parts))]) [] rfl trivial ?_
      refine Tc_ne qX9_thing 15 6 34 rfl rfl (fun hb7 => ?_) (fun hb7 => ?_)
      · replace hF := gneg hb7 hF
        refine Go.run qX9_thing IX9_ok 18 6 (42, [(0, .ref 0), (1, .int x), (2, .int y), (3, .int br)], [.int br, .int y, .int x, .int m_things, .ref 0], [(0, .inr (9, [.int m_fans, .ref 1, .int m_things, .ref 2, .int m_people, .ref 3, .ref 4, .ref 5, .int m_sentences, .ref 6, .ref 7, .int m_stalls, .ref 8, .ref 9, .int m_told, .ref 10, .ref 11, .int m_taped, .int m_at, .int m_wrong, .ref 12, .ref 13, .ref 14, .ref 15, .ref 16, .ref 17, .int m_isImage, .ref 18, .ref 19, .ref 20, .ref 21])), (2, .inl (0, 50, .inl m_parts))]) [] rfl trivial ?_
        obtain ⟨r8, h9, hF⟩ := gbind hF
        refine Tk_v0 qX9_thing 24 rfl (c_X9_comes m_fans m_things m_people m_sentences m_stalls m_told m_taped m_at m_wrong m_isImage m_parts m_things x y br r8 h9) kX9_105_9 0 rfl rfl [0, 1] rfl rfl rfl rfl ⟨rfl, rfl, by decide, by decide⟩ [] rfl (Nat.le_of_ble_eq_true rfl) [] rfl [(0, .inr (9, [.int m_fans, .ref 1, .int m_things, .ref 2, .int m_people, .ref 3, .ref 4, .ref 5, .int m_sentences, .ref 6, .ref 7, .int m_stalls, .ref 8, .ref 9, .int m_told, .ref 10, .ref 11, .int m_taped, .int m_at, .int m_wrong, .ref 12, .ref 13, .ref 14, .ref 15, .ref 16, .ref 17, .int m_isImage, .ref 18, .ref 19, .ref 20, .ref 21])), (2, .inl (0, 50, .inl r8))] rfl ?_
        refine Go.run qX9_thing IX9_ok 25 10 (61, [(0, .ref 0), (1, .int x), (2, .int y), (3, .int br)], [.int ((m_things + 1) - 1)], [(0, .inr (9, [.int m_fans, .ref 1, .int (m_things + 1), .ref 2, .int m_people, .ref 3, .ref 4, .ref 5, .int m_sentences, .ref 6, .ref 7, .int m_stalls, .ref 8, .ref 9, .int m_told, .ref 10, .ref 11, .int m_taped, .int m_at, .int m_wrong, .ref 12, .ref 13, .ref 14, .ref 15, .ref 16, .ref 17, .int m_isImage, .ref 18, .ref 19, .ref 20, .ref 21])), (2, .inl (0, 50, .inl r8))]) [] rfl trivial ?_
        obtain rfl := Option.some.inj hF
        exact Tr_i qX9_thing 35 rfl rfl ⟨rfl, rfl⟩
      · replace hF := gpos hb7 hF
        refine Go.run qX9_thing IX9_ok 16 1 (33, [(0, .ref 0), (1, .int x), (2, .int y), (3, .int br)], [.int (-3)], [(0, .inr (9, [.int m_fans, .ref 1, .int m_things, .ref 2, .int m_people, .ref 3, .ref 4, .ref 5, .int m_sentences, .ref 6, .ref 7, .int m_stalls, .ref 8, .ref 9, .int m_told, .ref 10, .ref 11, .int m_taped, .int m_at, .int m_wrong, .ref 12, .ref 13, .ref 14, .ref 15, .ref 16, .ref 17, .int m_isImage, .ref 18, .ref 19, .ref 20, .ref 21])), (2, .inl (0, 50, .inl m_parts))]) [] rfl trivial ?_
        obtain rfl := Option.some.inj hF
        exact Tr_i qX9_thing 17 rfl rfl ⟨rfl, rfl⟩
    · replace hF := gpos hb6 hF
      refine Go.run qX9_thing IX9_ok 10 1 (21, [(0, .ref 0), (1, .int x), (2, .int y), (3, .int br)], [.int (-1)], [(0, .inr (9, [.int m_fans, .ref 1, .int m_things, .ref 2, .int m_people, .ref 3, .ref 4, .ref 5, .int m_sentences, .ref 6, .ref 7, .int m_stalls, .ref 8, .ref 9, .int m_told, .ref 10, .ref 11, .int m_taped, .int m_at, .int m_wrong, .ref 12, .ref 13, .ref 14, .ref 15, .ref 16, .ref 17, .int m_isImage, .ref 18, .ref 19, .ref 20, .ref 21])), (2, .inl (0, 50, .inl m_parts))]) [] rfl trivial ?_
      obtain rfl := Option.some.inj hF
      exact Tr_i qX9_thing 11 rfl rfl ⟨rfl, rfl⟩
def R_X9_make : Room := { frames := 2, cells := 0, slots := 0, locals := 46 }
noncomputable def F_X9_make (m_things : Int32) (m_parts : Nat → Int32) (th : Int32) (wh : Int32) (v : Int32) : Option (Int32 × (Nat → Int32)) :=
  if wh = 0 then ((F_X9_in v.toInt64 0 20).bind fun r2 => (F_X9_isThing m_things th).bind fun r4 => if r4 = 0 then (some ((-100001), m_parts)) else (if r2 = 0 then (some ((-100001), m_parts)) else (if gvp ((5 * th) + wh) 50 then (if gvp ((5 * th) + wh) 50 then (some ((m_parts ((5 * th) + wh).toNatClampNeg), (upd m_parts ((5 * th) + wh).toNatClampNeg v))) else none) else none))) else (if wh = 1 then ((F_X9_in v.toInt64 0 20).bind fun r37 => (F_X9_isThing m_things th).bind fun r39 => if r39 = 0 then (some ((-100001), m_parts)) else (if r37 = 0 then (some ((-100001), m_parts)) else (if gvp ((5 * th) + wh) 50 then (if gvp ((5 * th) + wh) 50 then (some ((m_parts ((5 * th) + wh).toNatClampNeg), (upd m_parts ((5 * th) + wh).toNatClampNeg v))) else none) else none))) else (if wh = 2 then ((F_X9_in v.toInt64 0 5).bind fun r29 => (F_X9_isThing m_things th).bind fun r31 => if r31 = 0 then (some ((-100001), m_parts)) else (if r29 = 0 then (some ((-100001), m_parts)) else (if gvp ((5 * th) + wh) 50 then (if gvp ((5 * th) + wh) 50 then (some ((m_parts ((5 * th) + wh).toNatClampNeg), (upd m_parts ((5 * th) + wh).toNatClampNeg v))) else none) else none))) else ((F_X9_in wh.toInt64 3 4).bind fun r12 => if r12 = 0 then ((F_X9_isThing m_things th).bind fun r15 => if r15 = 0 then (some ((-100001), m_parts)) else (some ((-100001), m_parts))) else ((F_X9_in v.toInt64 (-3) 3).bind fun r18 => if r18 = 0 then ((F_X9_isThing m_things th).bind fun r21 => if r21 = 0 then (some ((-100001), m_parts)) else (some ((-100001), m_parts))) else ((F_X9_isThing m_things th).bind fun r24 => if r24 = 0 then (some ((-100001), m_parts)) else (if gvp ((5 * th) + wh) 50 then (if gvp ((5 * th) + wh) 50 then (some ((m_parts ((5 * th) + wh).toNatClampNeg), (upd m_parts ((5 * th) + wh).toNatClampNeg v))) else none) else none))))))
set_option maxRecDepth 100000 in
set_option maxHeartbeats 4000000 in
theorem c_X9_make (m_fans : Int32) (m_things : Int32) (m_people : Int32) (m_sentences : Int32) (m_stalls : Int32) (m_told : Int32) (m_taped : Int32) (m_at : Int32) (m_wrong : Int32) (m_isImage : Int32) (m_parts : Nat → Int32) (th : Int32) (wh : Int32) (v : Int32) (rr : Int32 × (Nat → Int32)) (hF : F_X9_make m_things m_parts th wh v = some rr) : Cd mX9_make R_X9_make [.ref 0, .int th, .int wh, .int v] [(0, .inr (9, [.int m_fans, .ref 1, .int m_things, .ref 2, .int m_people, .ref 3, .ref 4, .ref 5, .int m_sentences, .ref 6, .ref 7, .int m_stalls, .ref 8, .ref 9, .int m_told, .ref 10, .ref 11, .int m_taped, .int m_at, .int m_wrong, .ref 12, .ref 13, .ref 14, .ref 15, .ref 16, .ref 17, .int m_isImage, .ref 18, .ref 19, .ref 20, .ref 21])), (2, .inl (0, 50, .inl m_parts))] (some (.int rr.1)) [(0, .inr (9, [.int m_fans, .ref 1, .int m_things, .ref 2, .int m_people, .ref 3, .ref 4, .ref 5, .int m_sentences, .ref 6, .ref 7, .int m_stalls, .ref 8, .ref 9, .int m_told, .ref 10, .ref 11, .int m_taped, .int m_at, .int m_wrong, .ref 12, .ref 13, .ref 14, .ref 15, .ref 16, .ref 17, .int m_isImage, .ref 18, .ref 19, .ref 20, .ref 21])), (2, .inl (0, 50, .inl rr.2))] := by
  unfold F_X9_make at hF
  refine Ct.of rfl (Nat.le_of_ble_eq_true rfl) ?_
  refine Go.run qX9_make IX9_ok 0 1 (1, [(0, .ref 0), (1, .int th), (2, .int wh), (3, .int v)], [.int wh], [(0, .inr (9, [.int m_fans, .ref 1, .int m_things, .ref 2, .int m_people, .ref 3, .ref 4, .ref 5, .int m_sentences, .ref 6, .ref 7, .int m_stalls, .ref 8, .ref 9, .int m_told, .ref 10, .ref 11, .int m_taped, .int m_at, .int m_wrong, .ref 12, .ref 13, .ref 14, .ref 15, .ref 16, .ref 17, .int m_isImage, .ref 18, .ref 19, .ref 20, .ref 21])), (2, .inl (0, 50, .inl m_parts))]) [] rfl trivial ?_
  refine Ti_eq qX9_make 1 8 9 rfl rfl (fun hb1 => ?_) (fun hb1 => ?_)
  · replace hF := gpos hb1 hF
    refine Go.run qX9_make IX9_ok 5 4 (15, [(0, .ref 0), (1, .int th), (2, .int wh), (3, .int v)], [.long 20, .long 0, .long v.toInt64], [(0, .inr (9, [.int m_fans, .ref 1, .int m_things, .ref 2, .int m_people, .ref 3, .ref 4, .ref 5, .int m_sentences, .ref 6, .ref 7, .int m_stalls, .ref 8, .ref 9, .int m_told, .ref 10, .ref 11, .int m_taped, .int m_at, .int m_wrong, .ref 12, .ref 13, .ref 14, .ref 15, .ref 16, .ref 17, .int m_isImage, .ref 18, .ref 19, .ref 20, .ref 21])), (2, .inl (0, 50, .inl m_parts))]) [] rfl trivial ?_
    obtain ⟨r2, h3, hF⟩ := gbind hF
    refine Tk_s qX9_make 9 rfl (c_X9_in v.toInt64 0 20 r2 h3) kX9_84 (gr []) [] rfl rfl rfl rfl ⟨rfl, rfl, by decide, by decide⟩ [] rfl (Nat.le_of_ble_eq_true rfl) [.int r2] rfl [(0, .inr (9, [.int m_fans, .ref 1, .int m_things, .ref 2, .int m_people, .ref 3, .ref 4, .ref 5, .int m_sentences, .ref 6, .ref 7, .int m_stalls, .ref 8, .ref 9, .int m_told, .ref 10, .ref 11, .int m_taped, .int m_at, .int m_wrong, .ref 12, .ref 13, .ref 14, .ref 15, .ref 16, .ref 17, .int m_isImage, .ref 18, .ref 19, .ref 20, .ref 21])), (2, .inl (0, 50, .inl m_parts))] rfl ?_
    refine Go.run qX9_make IX9_ok 10 1 (71, [(0, .ref 0), (1, .int th), (2, .int wh), (3, .int v)], [.int r2], [(0, .inr (9, [.int m_fans, .ref 1, .int m_things, .ref 2, .int m_people, .ref 3, .ref 4, .ref 5, .int m_sentences, .ref 6, .ref 7, .int m_stalls, .ref 8, .ref 9, .int m_told, .ref 10, .ref 11, .int m_taped, .int m_at, .int m_wrong, .ref 12, .ref 13, .ref 14, .ref 15, .ref 16, .ref 17, .int m_isImage, .ref 18, .ref 19, .ref 20, .ref 21])), (2, .inl (0, 50, .inl m_parts))]) [] rfl trivial ?_
    refine Go.run qX9_make IX9_ok 35 3 (75, [(4, .int r2), (0, .ref 0), (1, .int th), (2, .int wh), (3, .int v)], [.int th, .ref 0], [(0, .inr (9, [.int m_fans, .ref 1, .int m_things, .ref 2, .int m_people, .ref 3, .ref 4, .ref 5, .int m_sentences, .ref 6, .ref 7, .int m_stalls, .ref 8, .ref 9, .int m_told, .ref 10, .ref 11, .int m_taped, .int m_at, .int m_wrong, .ref 12, .ref 13, .ref 14, .ref 15, .ref 16, .ref 17, .int m_isImage, .ref 18, .ref 19, .ref 20, .ref 21])), (2, .inl (0, 50, .inl m_parts))]) [] rfl trivial ?_
    obtain ⟨r4, h5, hF⟩ := gbind hF
    refine Tk_v0 qX9_make 38 rfl (c_X9_isThing m_fans m_things m_people m_sentences m_stalls m_told m_taped m_at m_wrong m_isImage th r4 h5) kX9_115_9 0 rfl rfl [0] rfl rfl rfl rfl ⟨rfl, rfl, by decide, by decide⟩ [] rfl (Nat.le_of_ble_eq_true rfl) [.int r4] rfl [(0, .inr (9, [.int m_fans, .ref 1, .int m_things, .ref 2, .int m_people, .ref 3, .ref 4, .ref 5, .int m_sentences, .ref 6, .ref 7, .int m_stalls, .ref 8, .ref 9, .int m_told, .ref 10, .ref 11, .int m_taped, .int m_at, .int m_wrong, .ref 12, .ref 13, .ref 14, .ref 15, .ref 16, .ref 17, .int m_isImage, .ref 18, .ref 19, .ref 20, .ref 21])), (2, .inl (0, 50, .inl m_parts))] rfl ?_
    refine Ti_eq qX9_make 39 8 86 rfl rfl (fun hb6 => ?_) (fun hb6 => ?_)
    · replace hF := gpos hb6 hF
      refine Go.run qX9_make IX9_ok 42 1 (88, [(4, .int r2), (0, .ref 0), (1, .int th), (2, .int wh), (3, .int v)], [.int (-100001)], [(0, .inr (9, [.int m_fans, .ref 1, .int m_things, .ref 2, .int m_people, .ref 3, .ref 4, .ref 5, .int m_sentences, .ref 6, .ref 7, .int m_stalls, .ref 8, .ref 9, .int m_told, .ref 10, .ref 11, .int m_taped, .int m_at, .int m_wrong, .ref 12, .ref 13, .ref 14, .ref 15, .ref 16, .ref 17, .int m_isImage, .ref 18, .ref 19, .ref 20, .ref 21])), (2, .inl (0, 50, .inl m_parts))]) [] rfl trivial ?_
      obtain rfl := Option.some.inj hF
      exact Tr_i qX9_make 43 rfl rfl ⟨rfl, rfl⟩
    · replace hF := gneg hb6 hF
      refine Go.run qX9_make IX9_ok 40 1 (83, [(4, .int r2), (0, .ref 0), (1, .int th), (2, .int wh), (3, .int v)], [.int r2], [(0, .inr (9, [.int m_fans, .ref 1, .int m_things, .ref 2, .int m_people, .ref 3, .ref 4, .ref 5, .int m_sentences, .ref 6, .ref 7, .int m_stalls, .ref 8, .ref 9, .int m_told, .ref 10, .ref 11, .int m_taped, .int m_at, .int m_wrong, .ref 12, .ref 13, .ref 14, .ref 15, .ref 16, .ref 17, .int m_isImage, .ref 18, .ref 19, .ref 20, .ref 21])), (2, .inl (0, 50, .inl m_parts))]) [] rfl trivial ?_
      refine Ti_ne qX9_make 41 6 89 rfl rfl (fun hb7 => ?_) (fun hb7 => ?_)
      · replace hF := gneg hb7 hF
        obtain ⟨hc8, hF⟩ := gif hF
        obtain ⟨hc9, hF⟩ := gif hF
        refine Go.run qX9_make IX9_ok 44 19 (114, [(5, .int (m_parts ((5 * th) + wh).toNatClampNeg)), (4, .int r2), (0, .ref 0), (1, .int th), (2, .int wh), (3, .int v)], [.int (m_parts ((5 * th) + wh).toNatClampNeg)], [(0, .inr (9, [.int m_fans, .ref 1, .int m_things, .ref 2, .int m_people, .ref 3, .ref 4, .ref 5, .int m_sentences, .ref 6, .ref 7, .int m_stalls, .ref 8, .ref 9, .int m_told, .ref 10, .ref 11, .int m_taped, .int m_at, .int m_wrong, .ref 12, .ref 13, .ref 14, .ref 15, .ref 16, .ref 17, .int m_isImage, .ref 18, .ref 19, .ref 20, .ref 21])), (2, .inl (0, 50, .inl (upd m_parts ((5 * th) + wh).toNatClampNeg v)))]) [gvp ((5 * th) + wh) 50, gvp ((5 * th) + wh) 50] rfl ⟨hc8, hc9, trivial⟩ ?_
        obtain rfl := Option.some.inj hF
        exact Tr_i qX9_make 63 rfl rfl ⟨rfl, rfl⟩
      · replace hF := gpos hb7 hF
        refine Go.run qX9_make IX9_ok 42 1 (88, [(4, .int r2), (0, .ref 0), (1, .int th), (2, .int wh), (3, .int v)], [.int (-100001)], [(0, .inr (9, [.int m_fans, .ref 1, .int m_things, .ref 2, .int m_people, .ref 3, .ref 4, .ref 5, .int m_sentences, .ref 6, .ref 7, .int m_stalls, .ref 8, .ref 9, .int m_told, .ref 10, .ref 11, .int m_taped, .int m_at, .int m_wrong, .ref 12, .ref 13, .ref 14, .ref 15, .ref 16, .ref 17, .int m_isImage, .ref 18, .ref 19, .ref 20, .ref 21])), (2, .inl (0, 50, .inl m_parts))]) [] rfl trivial ?_
        obtain rfl := Option.some.inj hF
        exact Tr_i qX9_make 43 rfl rfl ⟨rfl, rfl⟩
  · replace hF := gneg hb1 hF
    refine Go.run qX9_make IX9_ok 2 2 (6, [(0, .ref 0), (1, .int th), (2, .int wh), (3, .int v)], [.int 1, .int wh], [(0, .inr (9, [.int m_fans, .ref 1, .int m_things, .ref 2, .int m_people, .ref 3, .ref 4, .ref 5, .int m_sentences, .ref 6, .ref 7, .int m_stalls, .ref 8, .ref 9, .int m_told, .ref 10, .ref 11, .int m_taped, .int m_at, .int m_wrong, .ref 12, .ref 13, .ref 14, .ref 15, .ref 16, .ref 17, .int m_isImage, .ref 18, .ref 19, .ref 20, .ref 21])), (2, .inl (0, 50, .inl m_parts))]) [] rfl trivial ?_
    refine Tc_ne qX9_make 4 15 21 rfl rfl (fun hb10 => ?_) (fun hb10 => ?_)
    · replace hF := gneg hb10 hF
      refine Go.run qX9_make IX9_ok 11 2 (23, [(0, .ref 0), (1, .int th), (2, .int wh), (3, .int v)], [.int 2, .int wh], [(0, .inr (9, [.int m_fans, .ref 1, .int m_things, .ref 2, .int m_people, .ref 3, .ref 4, .ref 5, .int m_sentences, .ref 6, .ref 7, .int m_stalls, .ref 8, .ref 9, .int m_told, .ref 10, .ref 11, .int m_taped, .int m_at, .int m_wrong, .ref 12, .ref 13, .ref 14, .ref 15, .ref 16, .ref 17, .int m_isImage, .ref 18, .ref 19, .ref 20, .ref 21])), (2, .inl (0, 50, .inl m_parts))]) [] rfl trivial ?_
      refine Tc_ne qX9_make 13 15 38 rfl rfl (fun hb11 => ?_) (fun hb11 => ?_)
      · replace hF := gneg hb11 hF
        refine Go.run qX9_make IX9_ok 20 4 (46, [(0, .ref 0), (1, .int th), (2, .int wh), (3, .int v)], [.long 4, .long 3, .long wh.toInt64], [(0, .inr (9, [.int m_fans, .ref 1, .int m_things, .ref 2, .int m_people, .ref 3, .ref 4, .ref 5, .int m_sentences, .ref 6, .ref 7, .int m_stalls, .ref 8, .ref 9, .int m_told, .ref 10, .ref 11, .int m_taped, .int m_at, .int m_wrong, .ref 12, .ref 13, .ref 14, .ref 15, .ref 16, .ref 17, .int m_isImage, .ref 18, .ref 19, .ref 20, .ref 21])), (2, .inl (0, 50, .inl m_parts))]) [] rfl trivial ?_
        obtain ⟨r12, h13, hF⟩ := gbind hF
        refine Tk_s qX9_make 24 rfl (c_X9_in wh.toInt64 3 4 r12 h13) kX9_84 (gr []) [] rfl rfl rfl rfl ⟨rfl, rfl, by decide, by decide⟩ [] rfl (Nat.le_of_ble_eq_true rfl) [.int r12] rfl [(0, .inr (9, [.int m_fans, .ref 1, .int m_things, .ref 2, .int m_people, .ref 3, .ref 4, .ref 5, .int m_sentences, .ref 6, .ref 7, .int m_stalls, .ref 8, .ref 9, .int m_told, .ref 10, .ref 11, .int m_taped, .int m_at, .int m_wrong, .ref 12, .ref 13, .ref 14, .ref 15, .ref 16, .ref 17, .int m_isImage, .ref 18, .ref 19, .ref 20, .ref 21])), (2, .inl (0, 50, .inl m_parts))] rfl ?_
        refine Ti_eq qX9_make 25 21 70 rfl rfl (fun hb14 => ?_) (fun hb14 => ?_)
        · replace hF := gpos hb14 hF
          refine Go.run qX9_make IX9_ok 34 4 (75, [(4, .int 0), (0, .ref 0), (1, .int th), (2, .int wh), (3, .int v)], [.int th, .ref 0], [(0, .inr (9, [.int m_fans, .ref 1, .int m_things, .ref 2, .int m_people, .ref 3, .ref 4, .ref 5, .int m_sentences, .ref 6, .ref 7, .int m_stalls, .ref 8, .ref 9, .int m_told, .ref 10, .ref 11, .int m_taped, .int m_at, .int m_wrong, .ref 12, .ref 13, .ref 14, .ref 15, .ref 16, .ref 17, .int m_isImage, .ref 18, .ref 19, .ref 20, .ref 21])), (2, .inl (0, 50, .inl m_parts))]) [] rfl trivial ?_
          obtain ⟨r15, h16, hF⟩ := gbind hF
          refine Tk_v0 qX9_make 38 rfl (c_X9_isThing m_fans m_things m_people m_sentences m_stalls m_told m_taped m_at m_wrong m_isImage th r15 h16) kX9_115_9 0 rfl rfl [0] rfl rfl rfl rfl ⟨rfl, rfl, by decide, by decide⟩ [] rfl (Nat.le_of_ble_eq_true rfl) [.int r15] rfl [(0, .inr (9, [.int m_fans, .ref 1, .int m_things, .ref 2, .int m_people, .ref 3, .ref 4, .ref 5, .int m_sentences, .ref 6, .ref 7, .int m_stalls, .ref 8, .ref 9, .int m_told, .ref 10, .ref 11, .int m_taped, .int m_at, .int m_wrong, .ref 12, .ref 13, .ref 14, .ref 15, .ref 16, .ref 17, .int m_isImage, .ref 18, .ref 19, .ref 20, .ref 21])), (2, .inl (0, 50, .inl m_parts))] rfl ?_
          refine Ti_eq qX9_make 39 8 86 rfl rfl (fun hb17 => ?_) (fun hb17 => ?_)
          · replace hF := gpos hb17 hF
            refine Go.run qX9_make IX9_ok 42 1 (88, [(4, .int 0), (0, .ref 0), (1, .int th), (2, .int wh), (3, .int v)], [.int (-100001)], [(0, .inr (9, [.int m_fans, .ref 1, .int m_things, .ref 2, .int m_people, .ref 3, .ref 4, .ref 5, .int m_sentences, .ref 6, .ref 7, .int m_stalls, .ref 8, .ref 9, .int m_told, .ref 10, .ref 11, .int m_taped, .int m_at, .int m_wrong, .ref 12, .ref 13, .ref 14, .ref 15, .ref 16, .ref 17, .int m_isImage, .ref 18, .ref 19, .ref 20, .ref 21])), (2, .inl (0, 50, .inl m_parts))]) [] rfl trivial ?_
            obtain rfl := Option.some.inj hF
            exact Tr_i qX9_make 43 rfl rfl ⟨rfl, rfl⟩
          · replace hF := gneg hb17 hF
            refine Go.run qX9_make IX9_ok 40 1 (83, [(4, .int 0), (0, .ref 0), (1, .int th), (2, .int wh), (3, .int v)], [.int 0], [(0, .inr (9, [.int m_fans, .ref 1, .int m_things, .ref 2, .int m_people, .ref 3, .ref 4, .ref 5, .int m_sentences, .ref 6, .ref 7, .int m_stalls, .ref 8, .ref 9, .int m_told, .ref 10, .ref 11, .int m_taped, .int m_at, .int m_wrong, .ref 12, .ref 13, .ref 14, .ref 15, .ref 16, .ref 17, .int m_isImage, .ref 18, .ref 19, .ref 20, .ref 21])), (2, .inl (0, 50, .inl m_parts))]) [] rfl trivial ?_
            refine Ti_ne qX9_make 41 6 89 rfl rfl (fun hb => absurd (by decide) hb) (fun _ => ?_)
            refine Go.run qX9_make IX9_ok 42 1 (88, [(4, .int 0), (0, .ref 0), (1, .int th), (2, .int wh), (3, .int v)], [.int (-100001)], [(0, .inr (9, [.int m_fans, .ref 1, .int m_things, .ref 2, .int m_people, .ref 3, .ref 4, .ref 5, .int m_sentences, .ref 6, .ref 7, .int m_stalls, .ref 8, .ref 9, .int m_told, .ref 10, .ref 11, .int m_taped, .int m_at, .int m_wrong, .ref 12, .ref 13, .ref 14, .ref 15, .ref 16, .ref 17, .int m_isImage, .ref 18, .ref 19, .ref 20, .ref 21])), (2, .inl (0, 50, .inl m_parts))]) [] rfl trivial ?_
            obtain rfl := Option.some.inj hF
            exact Tr_i qX9_make 43 rfl rfl ⟨rfl, rfl⟩
        · replace hF := gneg hb14 hF
          refine Go.run qX9_make IX9_ok 26 4 (60, [(0, .ref 0), (1, .int th), (2, .int wh), (3, .int v)], [.long 3, .long (-3), .long v.toInt64], [(0, .inr (9, [.int m_fans, .ref 1, .int m_things, .ref 2, .int m_people, .ref 3, .ref 4, .ref 5, .int m_sentences, .ref 6, .ref 7, .int m_stalls, .ref 8, .ref 9, .int m_told, .ref 10, .ref 11, .int m_taped, .int m_at, .int m_wrong, .ref 12, .ref 13, .ref 14, .ref 15, .ref 16, .ref 17, .int m_isImage, .ref 18, .ref 19, .ref 20, .ref 21])), (2, .inl (0, 50, .inl m_parts))]) [] rfl trivial ?_
          obtain ⟨r18, h19, hF⟩ := gbind hF
          refine Tk_s qX9_make 30 rfl (c_X9_in v.toInt64 (-3) 3 r18 h19) kX9_84 (gr []) [] rfl rfl rfl rfl ⟨rfl, rfl, by decide, by decide⟩ [] rfl (Nat.le_of_ble_eq_true rfl) [.int r18] rfl [(0, .inr (9, [.int m_fans, .ref 1, .int m_things, .ref 2, .int m_people, .ref 3, .ref 4, .ref 5, .int m_sentences, .ref 6, .ref 7, .int m_stalls, .ref 8, .ref 9, .int m_told, .ref 10, .ref 11, .int m_taped, .int m_at, .int m_wrong, .ref 12, .ref 13, .ref 14, .ref 15, .ref 16, .ref 17, .int m_isImage, .ref 18, .ref 19, .ref 20, .ref 21])), (2, .inl (0, 50, .inl m_parts))] rfl ?_
          refine Ti_eq qX9_make 31 7 70 rfl rfl (fun hb20 => ?_) (fun hb20 => ?_)
          · replace hF := gpos hb20 hF
            refine Go.run qX9_make IX9_ok 34 4 (75, [(4, .int 0), (0, .ref 0), (1, .int th), (2, .int wh), (3, .int v)], [.int th, .ref 0], [(0, .inr (9, [.int m_fans, .ref 1, .int m_things, .ref 2, .int m_people, .ref 3, .ref 4, .ref 5, .int m_sentences, .ref 6, .ref 7, .int m_stalls, .ref 8, .ref 9, .int m_told, .ref 10, .ref 11, .int m_taped, .int m_at, .int m_wrong, .ref 12, .ref 13, .ref 14, .ref 15, .ref 16, .ref 17, .int m_isImage, .ref 18, .ref 19, .ref 20, .ref 21])), (2, .inl (0, 50, .inl m_parts))]) [] rfl trivial ?_
            obtain ⟨r21, h22, hF⟩ := gbind hF
            refine Tk_v0 qX9_make 38 rfl (c_X9_isThing m_fans m_things m_people m_sentences m_stalls m_told m_taped m_at m_wrong m_isImage th r21 h22) kX9_115_9 0 rfl rfl [0] rfl rfl rfl rfl ⟨rfl, rfl, by decide, by decide⟩ [] rfl (Nat.le_of_ble_eq_true rfl) [.int r21] rfl [(0, .inr (9, [.int m_fans, .ref 1, .int m_things, .ref 2, .int m_people, .ref 3, .ref 4, .ref 5, .int m_sentences, .ref 6, .ref 7, .int m_stalls, .ref 8, .ref 9, .int m_told, .ref 10, .ref 11, .int m_taped, .int m_at, .int m_wrong, .ref 12, .ref 13, .ref 14, .ref 15, .ref 16, .ref 17, .int m_isImage, .ref 18, .ref 19, .ref 20, .ref 21])), (2, .inl (0, 50, .inl m_parts))] rfl ?_
            refine Ti_eq qX9_make 39 8 86 rfl rfl (fun hb23 => ?_) (fun hb23 => ?_)
            · replace hF := gpos hb23 hF
              refine Go.run qX9_make IX9_ok 42 1 (88, [(4, .int 0), (0, .ref 0), (1, .int th), (2, .int wh), (3, .int v)], [.int (-100001)], [(0, .inr (9, [.int m_fans, .ref 1, .int m_things, .ref 2, .int m_people, .ref 3, .ref 4, .ref 5, .int m_sentences, .ref 6, .ref 7, .int m_stalls, .ref 8, .ref 9, .int m_told, .ref 10, .ref 11, .int m_taped, .int m_at, .int m_wrong, .ref 12, .ref 13, .ref 14, .ref 15, .ref 16, .ref 17, .int m_isImage, .ref 18, .ref 19, .ref 20, .ref 21])), (2, .inl (0, 50, .inl m_parts))]) [] rfl trivial ?_
              obtain rfl := Option.some.inj hF
              exact Tr_i qX9_make 43 rfl rfl ⟨rfl, rfl⟩
            · replace hF := gneg hb23 hF
              refine Go.run qX9_make IX9_ok 40 1 (83, [(4, .int 0), (0, .ref 0), (1, .int th), (2, .int wh), (3, .int v)], [.int 0], [(0, .inr (9, [.int m_fans, .ref 1, .int m_things, .ref 2, .int m_people, .ref 3, .ref 4, .ref 5, .int m_sentences, .ref 6, .ref 7, .int m_stalls, .ref 8, .ref 9, .int m_told, .ref 10, .ref 11, .int m_taped, .int m_at, .int m_wrong, .ref 12, .ref 13, .ref 14, .ref 15, .ref 16, .ref 17, .int m_isImage, .ref 18, .ref 19, .ref 20, .ref 21])), (2, .inl (0, 50, .inl m_parts))]) [] rfl trivial ?_
              refine Ti_ne qX9_make 41 6 89 rfl rfl (fun hb => absurd (by decide) hb) (fun _ => ?_)
              refine Go.run qX9_make IX9_ok 42 1 (88, [(4, .int 0), (0, .ref 0), (1, .int th), (2, .int wh), (3, .int v)], [.int (-100001)], [(0, .inr (9, [.int m_fans, .ref 1, .int m_things, .ref 2, .int m_people, .ref 3, .ref 4, .ref 5, .int m_sentences, .ref 6, .ref 7, .int m_stalls, .ref 8, .ref 9, .int m_told, .ref 10, .ref 11, .int m_taped, .int m_at, .int m_wrong, .ref 12, .ref 13, .ref 14, .ref 15, .ref 16, .ref 17, .int m_isImage, .ref 18, .ref 19, .ref 20, .ref 21])), (2, .inl (0, 50, .inl m_parts))]) [] rfl trivial ?_
              obtain rfl := Option.some.inj hF
              exact Tr_i qX9_make 43 rfl rfl ⟨rfl, rfl⟩
          · replace hF := gneg hb20 hF
            refine Go.run qX9_make IX9_ok 32 2 (71, [(0, .ref 0), (1, .int th), (2, .int wh), (3, .int v)], [.int 1], [(0, .inr (9, [.int m_fans, .ref 1, .int m_things, .ref 2, .int m_people, .ref 3, .ref 4, .ref 5, .int m_sentences, .ref 6, .ref 7, .int m_stalls, .ref 8, .ref 9, .int m_told, .ref 10, .ref 11, .int m_taped, .int m_at, .int m_wrong, .ref 12, .ref 13, .ref 14, .ref 15, .ref 16, .ref 17, .int m_isImage, .ref 18, .ref 19, .ref 20, .ref 21])), (2, .inl (0, 50, .inl m_parts))]) [] rfl trivial ?_
            refine Go.run qX9_make IX9_ok 35 3 (75, [(4, .int 1), (0, .ref 0), (1, .int th), (2, .int wh), (3, .int v)], [.int th, .ref 0], [(0, .inr (9, [.int m_fans, .ref 1, .int m_things, .ref 2, .int m_people, .ref 3, .ref 4, .ref 5, .int m_sentences, .ref 6, .ref 7, .int m_stalls, .ref 8, .ref 9, .int m_told, .ref 10, .ref 11, .int m_taped, .int m_at, .int m_wrong, .ref 12, .ref 13, .ref 14, .ref 15, .ref 16, .ref 17, .int m_isImage, .ref 18, .ref 19, .ref 20, .ref 21])), (2, .inl (0, 50, .inl m_parts))]) [] rfl trivial ?_
            obtain ⟨r24, h25, hF⟩ := gbind hF
            refine Tk_v0 qX9_make 38 rfl (c_X9_isThing m_fans m_things m_people m_sentences m_stalls m_told m_taped m_at m_wrong m_isImage th r24 h25) kX9_115_9 0 rfl rfl [0] rfl rfl rfl rfl ⟨rfl, rfl, by decide, by decide⟩ [] rfl (Nat.le_of_ble_eq_true rfl) [.int r24] rfl [(0, .inr (9, [.int m_fans, .ref 1, .int m_things, .ref 2, .int m_people, .ref 3, .ref 4, .ref 5, .int m_sentences, .ref 6, .ref 7, .int m_stalls, .ref 8, .ref 9, .int m_told, .ref 10, .ref 11, .int m_taped, .int m_at, .int m_wrong, .ref 12, .ref 13, .ref 14, .ref 15, .ref 16, .ref 17, .int m_isImage, .ref 18, .ref 19, .ref 20, .ref 21])), (2, .inl (0, 50, .inl m_parts))] rfl ?_
            refine Ti_eq qX9_make 39 8 86 rfl rfl (fun hb26 => ?_) (fun hb26 => ?_)
            · replace hF := gpos hb26 hF
              refine Go.run qX9_make IX9_ok 42 1 (88, [(4, .int 1), (0, .ref 0), (1, .int th), (2, .int wh), (3, .int v)], [.int (-100001)], [(0, .inr (9, [.int m_fans, .ref 1, .int m_things, .ref 2, .int m_people, .ref 3, .ref 4, .ref 5, .int m_sentences, .ref 6, .ref 7, .int m_stalls, .ref 8, .ref 9, .int m_told, .ref 10, .ref 11, .int m_taped, .int m_at, .int m_wrong, .ref 12, .ref 13, .ref 14, .ref 15, .ref 16, .ref 17, .int m_isImage, .ref 18, .ref 19, .ref 20, .ref 21])), (2, .inl (0, 50, .inl m_parts))]) [] rfl trivial ?_
              obtain rfl := Option.some.inj hF
              exact Tr_i qX9_make 43 rfl rfl ⟨rfl, rfl⟩
            · replace hF := gneg hb26 hF
              refine Go.run qX9_make IX9_ok 40 1 (83, [(4, .int 1), (0, .ref 0), (1, .int th), (2, .int wh), (3, .int v)], [.int 1], [(0, .inr (9, [.int m_fans, .ref 1, .int m_things, .ref 2, .int m_people, .ref 3, .ref 4, .ref 5, .int m_sentences, .ref 6, .ref 7, .int m_stalls, .ref 8, .ref 9, .int m_told, .ref 10, .ref 11, .int m_taped, .int m_at, .int m_wrong, .ref 12, .ref 13, .ref 14, .ref 15, .ref 16, .ref 17, .int m_isImage, .ref 18, .ref 19, .ref 20, .ref 21])), (2, .inl (0, 50, .inl m_parts))]) [] rfl trivial ?_
              refine Ti_ne qX9_make 41 6 89 rfl rfl (fun _ => ?_) (fun hb => absurd hb (by decide))
              obtain ⟨hc27, hF⟩ := gif hF
              obtain ⟨hc28, hF⟩ := gif hF
              refine Go.run qX9_make IX9_ok 44 19 (114, [(5, .int (m_parts ((5 * th) + wh).toNatClampNeg)), (4, .int 1), (0, .ref 0), (1, .int th), (2, .int wh), (3, .int v)], [.int (m_parts ((5 * th) + wh).toNatClampNeg)], [(0, .inr (9, [.int m_fans, .ref 1, .int m_things, .ref 2, .int m_people, .ref 3, .ref 4, .ref 5, .int m_sentences, .ref 6, .ref 7, .int m_stalls, .ref 8, .ref 9, .int m_told, .ref 10, .ref 11, .int m_taped, .int m_at, .int m_wrong, .ref 12, .ref 13, .ref 14, .ref 15, .ref 16, .ref 17, .int m_isImage, .ref 18, .ref 19, .ref 20, .ref 21])), (2, .inl (0, 50, .inl (upd m_parts ((5 * th) + wh).toNatClampNeg v)))]) [gvp ((5 * th) + wh) 50, gvp ((5 * th) + wh) 50] rfl ⟨hc27, hc28, trivial⟩ ?_
              obtain rfl := Option.some.inj hF
              exact Tr_i qX9_make 63 rfl rfl ⟨rfl, rfl⟩
      · replace hF := gpos hb11 hF
        refine Go.run qX9_make IX9_ok 14 4 (32, [(0, .ref 0), (1, .int th), (2, .int wh), (3, .int v)], [.long 5, .long 0, .long v.toInt64], [(0, .inr (9, [.int m_fans, .ref 1, .int m_things, .ref 2, .int m_people, .ref 3, .ref 4, .ref 5, .int m_sentences, .ref 6, .ref 7, .int m_stalls, .ref 8, .ref 9, .int m_told, .ref 10, .ref 11, .int m_taped, .int m_at, .int m_wrong, .ref 12, .ref 13, .ref 14, .ref 15, .ref 16, .ref 17, .int m_isImage, .ref 18, .ref 19, .ref 20, .ref 21])), (2, .inl (0, 50, .inl m_parts))]) [] rfl trivial ?_
        obtain ⟨r29, h30, hF⟩ := gbind hF
        refine Tk_s qX9_make 18 rfl (c_X9_in v.toInt64 0 5 r29 h30) kX9_84 (gr []) [] rfl rfl rfl rfl ⟨rfl, rfl, by decide, by decide⟩ [] rfl (Nat.le_of_ble_eq_true rfl) [.int r29] rfl [(0, .inr (9, [.int m_fans, .ref 1, .int m_things, .ref 2, .int m_people, .ref 3, .ref 4, .ref 5, .int m_sentences, .ref 6, .ref 7, .int m_stalls, .ref 8, .ref 9, .int m_told, .ref 10, .ref 11, .int m_taped, .int m_at, .int m_wrong, .ref 12, .ref 13, .ref 14, .ref 15, .ref 16, .ref 17, .int m_isImage, .ref 18, .ref 19, .ref 20, .ref 21])), (2, .inl (0, 50, .inl m_parts))] rfl ?_
        refine Go.run qX9_make IX9_ok 19 1 (71, [(0, .ref 0), (1, .int th), (2, .int wh), (3, .int v)], [.int r29], [(0, .inr (9, [.int m_fans, .ref 1, .int m_things, .ref 2, .int m_people, .ref 3, .ref 4, .ref 5, .int m_sentences, .ref 6, .ref 7, .int m_stalls, .ref 8, .ref 9, .int m_told, .ref 10, .ref 11, .int m_taped, .int m_at, .int m_wrong, .ref 12, .ref 13, .ref 14, .ref 15, .ref 16, .ref 17, .int m_isImage, .ref 18, .ref 19, .ref 20, .ref 21])), (2, .inl (0, 50, .inl m_parts))]) [] rfl trivial ?_
        refine Go.run qX9_make IX9_ok 35 3 (75, [(4, .int r29), (0, .ref 0), (1, .int th), (2, .int wh), (3, .int v)], [.int th, .ref 0], [(0, .inr (9, [.int m_fans, .ref 1, .int m_things, .ref 2, .int m_people, .ref 3, .ref 4, .ref 5, .int m_sentences, .ref 6, .ref 7, .int m_stalls, .ref 8, .ref 9, .int m_told, .ref 10, .ref 11, .int m_taped, .int m_at, .int m_wrong, .ref 12, .ref 13, .ref 14, .ref 15, .ref 16, .ref 17, .int m_isImage, .ref 18, .ref 19, .ref 20, .ref 21])), (2, .inl (0, 50, .inl m_parts))]) [] rfl trivial ?_
        obtain ⟨r31, h32, hF⟩ := gbind hF
        refine Tk_v0 qX9_make 38 rfl (c_X9_isThing m_fans m_things m_people m_sentences m_stalls m_told m_taped m_at m_wrong m_isImage th r31 h32) kX9_115_9 0 rfl rfl [0] rfl rfl rfl rfl ⟨rfl, rfl, by decide, by decide⟩ [] rfl (Nat.le_of_ble_eq_true rfl) [.int r31] rfl [(0, .inr (9, [.int m_fans, .ref 1, .int m_things, .ref 2, .int m_people, .ref 3, .ref 4, .ref 5, .int m_sentences, .ref 6, .ref 7, .int m_stalls, .ref 8, .ref 9, .int m_told, .ref 10, .ref 11, .int m_taped, .int m_at, .int m_wrong, .ref 12, .ref 13, .ref 14, .ref 15, .ref 16, .ref 17, .int m_isImage, .ref 18, .ref 19, .ref 20, .ref 21])), (2, .inl (0, 50, .inl m_parts))] rfl ?_
        refine Ti_eq qX9_make 39 8 86 rfl rfl (fun hb33 => ?_) (fun hb33 => ?_)
        · replace hF := gpos hb33 hF
          refine Go.run qX9_make IX9_ok 42 1 (88, [(4, .int r29), (0, .ref 0), (1, .int th), (2, .int wh), (3, .int v)], [.int (-100001)], [(0, .inr (9, [.int m_fans, .ref 1, .int m_things, .ref 2, .int m_people, .ref 3, .ref 4, .ref 5, .int m_sentences, .ref 6, .ref 7, .int m_stalls, .ref 8, .ref 9, .int m_told, .ref 10, .ref 11, .int m_taped, .int m_at, .int m_wrong, .ref 12, .ref 13, .ref 14, .ref 15, .ref 16, .ref 17, .int m_isImage, .ref 18, .ref 19, .ref 20, .ref 21])), (2, .inl (0, 50, .inl m_parts))]) [] rfl trivial ?_
          obtain rfl := Option.some.inj hF
          exact Tr_i qX9_make 43 rfl rfl ⟨rfl, rfl⟩
        · replace hF := gneg hb33 hF
          refine Go.run qX9_make IX9_ok 40 1 (83, [(4, .int r29), (0, .ref 0), (1, .int th), (2, .int wh), (3, .int v)], [.int r29], [(0, .inr (9, [.int m_fans, .ref 1, .int m_things, .ref 2, .int m_people, .ref 3, .ref 4, .ref 5, .int m_sentences, .ref 6, .ref 7, .int m_stalls, .ref 8, .ref 9, .int m_told, .ref 10, .ref 11, .int m_taped, .int m_at, .int m_wrong, .ref 12, .ref 13, .ref 14, .ref 15, .ref 16, .ref 17, .int m_isImage, .ref 18, .ref 19, .ref 20, .ref 21])), (2, .inl (0, 50, .inl m_parts))]) [] rfl trivial ?_
          refine Ti_ne qX9_make 41 6 89 rfl rfl (fun hb34 => ?_) (fun hb34 => ?_)
          · replace hF := gneg hb34 hF
            obtain ⟨hc35, hF⟩ := gif hF
            obtain ⟨hc36, hF⟩ := gif hF
            refine Go.run qX9_make IX9_ok 44 19 (114, [(5, .int (m_parts ((5 * th) + wh).toNatClampNeg)), (4, .int r29), (0, .ref 0), (1, .int th), (2, .int wh), (3, .int v)], [.int (m_parts ((5 * th) + wh).toNatClampNeg)], [(0, .inr (9, [.int m_fans, .ref 1, .int m_things, .ref 2, .int m_people, .ref 3, .ref 4, .ref 5, .int m_sentences, .ref 6, .ref 7, .int m_stalls, .ref 8, .ref 9, .int m_told, .ref 10, .ref 11, .int m_taped, .int m_at, .int m_wrong, .ref 12, .ref 13, .ref 14, .ref 15, .ref 16, .ref 17, .int m_isImage, .ref 18, .ref 19, .ref 20, .ref 21])), (2, .inl (0, 50, .inl (upd m_parts ((5 * th) + wh).toNatClampNeg v)))]) [gvp ((5 * th) + wh) 50, gvp ((5 * th) + wh) 50] rfl ⟨hc35, hc36, trivial⟩ ?_
            obtain rfl := Option.some.inj hF
            exact Tr_i qX9_make 63 rfl rfl ⟨rfl, rfl⟩
          · replace hF := gpos hb34 hF
            refine Go.run qX9_make IX9_ok 42 1 (88, [(4, .int r29), (0, .ref 0), (1, .int th), (2, .int wh), (3, .int v)], [.int (-100001)], [(0, .inr (9, [.int m_fans, .ref 1, .int m_things, .ref 2, .int m_people, .ref 3, .ref 4, .ref 5, .int m_sentences, .ref 6, .ref 7, .int m_stalls, .ref 8, .ref 9, .int m_told, .ref 10, .ref 11, .int m_taped, .int m_at, .int m_wrong, .ref 12, .ref 13, .ref 14, .ref 15, .ref 16, .ref 17, .int m_isImage, .ref 18, .ref 19, .ref 20, .ref 21])), (2, .inl (0, 50, .inl m_parts))]) [] rfl trivial ?_
            obtain rfl := Option.some.inj hF
            exact Tr_i qX9_make 43 rfl rfl ⟨rfl, rfl⟩
    · replace hF := gpos hb10 hF
      refine Go.run qX9_make IX9_ok 5 4 (15, [(0, .ref 0), (1, .int th), (2, .int wh), (3, .int v)], [.long 20, .long 0, .long v.toInt64], [(0, .inr (9, [.int m_fans, .ref 1, .int m_things, .ref 2, .int m_people, .ref 3, .ref 4, .ref 5, .int m_sentences, .ref 6, .ref 7, .int m_stalls, .ref 8, .ref 9, .int m_told, .ref 10, .ref 11, .int m_taped, .int m_at, .int m_wrong, .ref 12, .ref 13, .ref 14, .ref 15, .ref 16, .ref 17, .int m_isImage, .ref 18, .ref 19, .ref 20, .ref 21])), (2, .inl (0, 50, .inl m_parts))]) [] rfl trivial ?_
      obtain ⟨r37, h38, hF⟩ := gbind hF
      refine Tk_s qX9_make 9 rfl (c_X9_in v.toInt64 0 20 r37 h38) kX9_84 (gr []) [] rfl rfl rfl rfl ⟨rfl, rfl, by decide, by decide⟩ [] rfl (Nat.le_of_ble_eq_true rfl) [.int r37] rfl [(0, .inr (9, [.int m_fans, .ref 1, .int m_things, .ref 2, .int m_people, .ref 3, .ref 4, .ref 5, .int m_sentences, .ref 6, .ref 7, .int m_stalls, .ref 8, .ref 9, .int m_told, .ref 10, .ref 11, .int m_taped, .int m_at, .int m_wrong, .ref 12, .ref 13, .ref 14, .ref 15, .ref 16, .ref 17, .int m_isImage, .ref 18, .ref 19, .ref 20, .ref 21])), (2, .inl (0, 50, .inl m_parts))] rfl ?_
      refine Go.run qX9_make IX9_ok 10 1 (71, [(0, .ref 0), (1, .int th), (2, .int wh), (3, .int v)], [.int r37], [(0, .inr (9, [.int m_fans, .ref 1, .int m_things, .ref 2, .int m_people, .ref 3, .ref 4, .ref 5, .int m_sentences, .ref 6, .ref 7, .int m_stalls, .ref 8, .ref 9, .int m_told, .ref 10, .ref 11, .int m_taped, .int m_at, .int m_wrong, .ref 12, .ref 13, .ref 14, .ref 15, .ref 16, .ref 17, .int m_isImage, .ref 18, .ref 19, .ref 20, .ref 21])), (2, .inl (0, 50, .inl m_parts))]) [] rfl trivial ?_
      refine Go.run qX9_make IX9_ok 35 3 (75, [(4, .int r37), (0, .ref 0), (1, .int th), (2, .int wh), (3, .int v)], [.int th, .ref 0], [(0, .inr (9, [.int m_fans, .ref 1, .int m_things, .ref 2, .int m_people, .ref 3, .ref 4, .ref 5, .int m_sentences, .ref 6, .ref 7, .int m_stalls, .ref 8, .ref 9, .int m_told, .ref 10, .ref 11, .int m_taped, .int m_at, .int m_wrong, .ref 12, .ref 13, .ref 14, .ref 15, .ref 16, .ref 17, .int m_isImage, .ref 18, .ref 19, .ref 20, .ref 21])), (2, .inl (0, 50, .inl m_parts))]) [] rfl trivial ?_
      obtain ⟨r39, h40, hF⟩ := gbind hF
      refine Tk_v0 qX9_make 38 rfl (c_X9_isThing m_fans m_things m_people m_sentences m_stalls m_told m_taped m_at m_wrong m_isImage th r39 h40) kX9_115_9 0 rfl rfl [0] rfl rfl rfl rfl ⟨rfl, rfl, by decide, by decide⟩ [] rfl (Nat.le_of_ble_eq_true rfl) [.int r39] rfl [(0, .inr (9, [.int m_fans, .ref 1, .int m_things, .ref 2, .int m_people, .ref 3, .ref 4, .ref 5, .int m_sentences, .ref 6, .ref 7, .int m_stalls, .ref 8, .ref 9, .int m_told, .ref 10, .ref 11, .int m_taped, .int m_at, .int m_wrong, .ref 12, .ref 13, .ref 14, .ref 15, .ref 16, .ref 17, .int m_isImage, .ref 18, .ref 19, .ref 20, .ref 21])), (2, .inl (0, 50, .inl m_parts))] rfl ?_
      refine Ti_eq qX9_make 39 8 86 rfl rfl (fun hb41 => ?_) (fun hb41 => ?_)
      · replace hF := gpos hb41 hF
        refine Go.run qX9_make IX9_ok 42 1 (88, [(4, .int r37), (0, .ref 0), (1, .int th), (2, .int wh), (3, .int v)], [.int (-100001)], [(0, .inr (9, [.int m_fans, .ref 1, .int m_things, .ref 2, .int m_people, .ref 3, .ref 4, .ref 5, .int m_sentences, .ref 6, .ref 7, .int m_stalls, .ref 8, .ref 9, .int m_told, .ref 10, .ref 11, .int m_taped, .int m_at, .int m_wrong, .ref 12, .ref 13, .ref 14, .ref 15, .ref 16, .ref 17, .int m_isImage, .ref 18, .ref 19, .ref 20, .ref 21])), (2, .inl (0, 50, .inl m_parts))]) [] rfl trivial ?_
        obtain rfl := Option.some.inj hF
        exact Tr_i qX9_make 43 rfl rfl ⟨rfl, rfl⟩
      · replace hF := gneg hb41 hF
        refine Go.run qX9_make IX9_ok 40 1 (83, [(4, .int r37), (0, .ref 0), (1, .int th), (2, .int wh), (3, .int v)], [.int r37], [(0, .inr (9, [.int m_fans, .ref 1, .int m_things, .ref 2, .int m_people, .ref 3, .ref 4, .ref 5, .int m_sentences, .ref 6, .ref 7, .int m_stalls, .ref 8, .ref 9, .int m_told, .ref 10, .ref 11, .int m_taped, .int m_at, .int m_wrong, .ref 12, .ref 13, .ref 14, .ref 15, .ref 16, .ref 17, .int m_isImage, .ref 18, .ref 19, .ref 20, .ref 21])), (2, .inl (0, 50, .inl m_parts))]) [] rfl trivial ?_
        refine Ti_ne qX9_make 41 6 89 rfl rfl (fun hb42 => ?_) (fun hb42 => ?_)
        · replace hF := gneg hb42 hF
          obtain ⟨hc43, hF⟩ := gif hF
          obtain ⟨hc44, hF⟩ := gif hF
          refine Go.run qX9_make IX9_ok 44 19 (114, [(5, .int (m_parts ((5 * th) + wh).toNatClampNeg)), (4, .int r37), (0, .ref 0), (1, .int th), (2, .int wh), (3, .int v)], [.int (m_parts ((5 * th) + wh).toNatClampNeg)], [(0, .inr (9, [.int m_fans, .ref 1, .int m_things, .ref 2, .int m_people, .ref 3, .ref 4, .ref 5, .int m_sentences, .ref 6, .ref 7, .int m_stalls, .ref 8, .ref 9, .int m_told, .ref 10, .ref 11, .int m_taped, .int m_at, .int m_wrong, .ref 12, .ref 13, .ref 14, .ref 15, .ref 16, .ref 17, .int m_isImage, .ref 18, .ref 19, .ref 20, .ref 21])), (2, .inl (0, 50, .inl (upd m_parts ((5 * th) + wh).toNatClampNeg v)))]) [gvp ((5 * th) + wh) 50, gvp ((5 * th) + wh) 50] rfl ⟨hc43, hc44, trivial⟩ ?_
          obtain rfl := Option.some.inj hF
          exact Tr_i qX9_make 63 rfl rfl ⟨rfl, rfl⟩
        · replace hF := gpos hb42 hF
          refine Go.run qX9_make IX9_ok 42 1 (88, [(4, .int r37), (0, .ref 0), (1, .int th), (2, .int wh), (3, .int v)], [.int (-100001)], [(0, .inr (9, [.int m_fans, .ref 1, .int m_things, .ref 2, .int m_people, .ref 3, .ref 4, .ref 5, .int m_sentences, .ref 6, .ref 7, .int m_stalls, .ref 8, .ref 9, .int m_told, .ref 10, .ref 11, .int m_taped, .int m_at, .int m_wrong, .ref 12, .ref 13, .ref 14, .ref 15, .ref 16, .ref 17, .int m_isImage, .ref 18, .ref 19, .ref 20, .ref 21])), (2, .inl (0, 50, .inl m_parts))]) [] rfl trivial ?_
          obtain rfl := Option.some.inj hF
          exact Tr_i qX9_make 43 rfl rfl ⟨rfl, rfl⟩
def R_X9_middle : Room := { frames := 0, cells := 0, slots := 0, locals := 0 }
noncomputable def F_X9_middle (m_parts : Nat → Int32) (th : Int32) (tk : Int32) (ax : Int32) : Option Int32 :=
  if gvp ((5 * th) + ax) 50 then (if gvp (((5 * th) + 3) + ax) 50 then (some ((m_parts ((5 * th) + ax).toNatClampNeg) + (tk * (m_parts (((5 * th) + 3) + ax).toNatClampNeg)))) else none) else none
set_option maxRecDepth 100000 in
set_option maxHeartbeats 4000000 in
theorem c_X9_middle (m_fans : Int32) (m_things : Int32) (m_people : Int32) (m_sentences : Int32) (m_stalls : Int32) (m_told : Int32) (m_taped : Int32) (m_at : Int32) (m_wrong : Int32) (m_isImage : Int32) (m_parts : Nat → Int32) (th : Int32) (tk : Int32) (ax : Int32) (rr : Int32) (hF : F_X9_middle m_parts th tk ax = some rr) : Cd mX9_middle R_X9_middle [.ref 0, .int th, .int tk, .int ax] [(0, .inr (9, [.int m_fans, .ref 1, .int m_things, .ref 2, .int m_people, .ref 3, .ref 4, .ref 5, .int m_sentences, .ref 6, .ref 7, .int m_stalls, .ref 8, .ref 9, .int m_told, .ref 10, .ref 11, .int m_taped, .int m_at, .int m_wrong, .ref 12, .ref 13, .ref 14, .ref 15, .ref 16, .ref 17, .int m_isImage, .ref 18, .ref 19, .ref 20, .ref 21])), (2, .inl (0, 50, .inl m_parts))] (some (.int rr)) [(0, .inr (9, [.int m_fans, .ref 1, .int m_things, .ref 2, .int m_people, .ref 3, .ref 4, .ref 5, .int m_sentences, .ref 6, .ref 7, .int m_stalls, .ref 8, .ref 9, .int m_told, .ref 10, .ref 11, .int m_taped, .int m_at, .int m_wrong, .ref 12, .ref 13, .ref 14, .ref 15, .ref 16, .ref 17, .int m_isImage, .ref 18, .ref 19, .ref 20, .ref 21])), (2, .inl (0, 50, .inl m_parts))] := by
  unfold F_X9_middle at hF
  refine Ct.of rfl (Nat.le_of_ble_eq_true rfl) ?_
  obtain ⟨hc1, hF⟩ := gif hF
  obtain ⟨hc2, hF⟩ := gif hF
  refine Go.run qX9_middle IX9_ok 0 21 (25, [(0, .ref 0), (1, .int th), (2, .int tk), (3, .int ax)], [.int ((m_parts ((5 * th) + ax).toNatClampNeg) + (tk * (m_parts (((5 * th) + 3) + ax).toNatClampNeg)))], [(0, .inr (9, [.int m_fans, .ref 1, .int m_things, .ref 2, .int m_people, .ref 3, .ref 4, .ref 5, .int m_sentences, .ref 6, .ref 7, .int m_stalls, .ref 8, .ref 9, .int m_told, .ref 10, .ref 11, .int m_taped, .int m_at, .int m_wrong, .ref 12, .ref 13, .ref 14, .ref 15, .ref 16, .ref 17, .int m_isImage, .ref 18, .ref 19, .ref 20, .ref 21])), (2, .inl (0, 50, .inl m_parts))]) [gvp ((5 * th) + ax) 50, gvp (((5 * th) + 3) + ax) 50] rfl ⟨hc1, hc2, trivial⟩ ?_
  obtain rfl := Option.some.inj hF
  exact Tr_i qX9_middle 21 rfl rfl ⟨rfl, rfl⟩
def R_X9_at : Room := { frames := 2, cells := 0, slots := 0, locals := 46 }
noncomputable def F_X9_at (m_things : Int32) (m_parts : Nat → Int32) (th : Int32) (tk : Int32) (wh : Int32) : Option Int32 :=
  (F_X9_isThing m_things th).bind fun r1 => if r1 = 0 then (some (-100001)) else ((F_X9_isTick tk).bind fun r4 => if r4 = 0 then (some (-100001)) else ((F_X9_in wh.toInt64 0 1).bind fun r7 => if r7 = 0 then (some (-100001)) else ((F_X9_middle m_parts th tk wh).bind fun r10 => some r10)))
set_option maxRecDepth 100000 in
set_option maxHeartbeats 4000000 in
theorem c_X9_at (m_fans : Int32) (m_things : Int32) (m_people : Int32) (m_sentences : Int32) (m_stalls : Int32) (m_told : Int32) (m_taped : Int32) (m_at : Int32) (m_wrong : Int32) (m_isImage : Int32) (m_parts : Nat → Int32) (th : Int32) (tk : Int32) (wh : Int32) (rr : Int32) (hF : F_X9_at m_things m_parts th tk wh = some rr) : Cd mX9_at R_X9_at [.ref 0, .int th, .int tk, .int wh] [(0, .inr (9, [.int m_fans, .ref 1, .int m_things, .ref 2, .int m_people, .ref 3, .ref 4, .ref 5, .int m_sentences, .ref 6, .ref 7, .int m_stalls, .ref 8, .ref 9, .int m_told, .ref 10, .ref 11, .int m_taped, .int m_at, .int m_wrong, .ref 12, .ref 13, .ref 14, .ref 15, .ref 16, .ref 17, .int m_isImage, .ref 18, .ref 19, .ref 20, .ref 21])), (2, .inl (0, 50, .inl m_parts))] (some (.int rr)) [(0, .inr (9, [.int m_fans, .ref 1, .int m_things, .ref 2, .int m_people, .ref 3, .ref 4, .ref 5, .int m_sentences, .ref 6, .ref 7, .int m_stalls, .ref 8, .ref 9, .int m_told, .ref 10, .ref 11, .int m_taped, .int m_at, .int m_wrong, .ref 12, .ref 13, .ref 14, .ref 15, .ref 16, .ref 17, .int m_isImage, .ref 18, .ref 19, .ref 20, .ref 21])), (2, .inl (0, 50, .inl m_parts))] := by
  unfold F_X9_at at hF
  refine Ct.of rfl (Nat.le_of_ble_eq_true rfl) ?_
  refine Go.run qX9_at IX9_ok 0 2 (2, [(0, .ref 0), (1, .int th), (2, .int tk), (3, .int wh)], [.int th, .ref 0], [(0, .inr (9, [.int m_fans, .ref 1, .int m_things, .ref 2, .int m_people, .ref 3, .ref 4, .ref 5, .int m_sentences, .ref 6, .ref 7, .int m_stalls, .ref 8, .ref 9, .int m_told, .ref 10, .ref 11, .int m_taped, .int m_at, .int m_wrong, .ref 12, .ref 13, .ref 14, .ref 15, .ref 16, .ref 17, .int m_isImage, .ref 18, .ref 19, .ref 20, .ref 21])), (2, .inl (0, 50, .inl m_parts))]) [] rfl trivial ?_
  obtain ⟨r1, h2, hF⟩ := gbind hF
  refine Tk_v0 qX9_at 2 rfl (c_X9_isThing m_fans m_things m_people m_sentences m_stalls m_told m_taped m_at m_wrong m_isImage th r1 h2) kX9_115_9 0 rfl rfl [0] rfl rfl rfl rfl ⟨rfl, rfl, by decide, by decide⟩ [] rfl (Nat.le_of_ble_eq_true rfl) [.int r1] rfl [(0, .inr (9, [.int m_fans, .ref 1, .int m_things, .ref 2, .int m_people, .ref 3, .ref 4, .ref 5, .int m_sentences, .ref 6, .ref 7, .int m_stalls, .ref 8, .ref 9, .int m_told, .ref 10, .ref 11, .int m_taped, .int m_at, .int m_wrong, .ref 12, .ref 13, .ref 14, .ref 15, .ref 16, .ref 17, .int m_isImage, .ref 18, .ref 19, .ref 20, .ref 21])), (2, .inl (0, 50, .inl m_parts))] rfl ?_
  refine Ti_eq qX9_at 3 30 35 rfl rfl (fun hb3 => ?_) (fun hb3 => ?_)
  · replace hF := gpos hb3 hF
    refine Go.run qX9_at IX9_ok 19 1 (37, [(0, .ref 0), (1, .int th), (2, .int tk), (3, .int wh)], [.int (-100001)], [(0, .inr (9, [.int m_fans, .ref 1, .int m_things, .ref 2, .int m_people, .ref 3, .ref 4, .ref 5, .int m_sentences, .ref 6, .ref 7, .int m_stalls, .ref 8, .ref 9, .int m_told, .ref 10, .ref 11, .int m_taped, .int m_at, .int m_wrong, .ref 12, .ref 13, .ref 14, .ref 15, .ref 16, .ref 17, .int m_isImage, .ref 18, .ref 19, .ref 20, .ref 21])), (2, .inl (0, 50, .inl m_parts))]) [] rfl trivial ?_
    obtain rfl := Option.some.inj hF
    exact Tr_i qX9_at 20 rfl rfl ⟨rfl, rfl⟩
  · replace hF := gneg hb3 hF
    refine Go.run qX9_at IX9_ok 4 1 (9, [(0, .ref 0), (1, .int th), (2, .int tk), (3, .int wh)], [.int tk], [(0, .inr (9, [.int m_fans, .ref 1, .int m_things, .ref 2, .int m_people, .ref 3, .ref 4, .ref 5, .int m_sentences, .ref 6, .ref 7, .int m_stalls, .ref 8, .ref 9, .int m_told, .ref 10, .ref 11, .int m_taped, .int m_at, .int m_wrong, .ref 12, .ref 13, .ref 14, .ref 15, .ref 16, .ref 17, .int m_isImage, .ref 18, .ref 19, .ref 20, .ref 21])), (2, .inl (0, 50, .inl m_parts))]) [] rfl trivial ?_
    obtain ⟨r4, h5, hF⟩ := gbind hF
    refine Tk_s qX9_at 5 rfl (c_X9_isTick tk r4 h5) kX9_120 (gr []) [] rfl rfl rfl rfl ⟨rfl, rfl, by decide, by decide⟩ [] rfl (Nat.le_of_ble_eq_true rfl) [.int r4] rfl [(0, .inr (9, [.int m_fans, .ref 1, .int m_things, .ref 2, .int m_people, .ref 3, .ref 4, .ref 5, .int m_sentences, .ref 6, .ref 7, .int m_stalls, .ref 8, .ref 9, .int m_told, .ref 10, .ref 11, .int m_taped, .int m_at, .int m_wrong, .ref 12, .ref 13, .ref 14, .ref 15, .ref 16, .ref 17, .int m_isImage, .ref 18, .ref 19, .ref 20, .ref 21])), (2, .inl (0, 50, .inl m_parts))] rfl ?_
    refine Ti_eq qX9_at 6 23 35 rfl rfl (fun hb6 => ?_) (fun hb6 => ?_)
    · replace hF := gpos hb6 hF
      refine Go.run qX9_at IX9_ok 19 1 (37, [(0, .ref 0), (1, .int th), (2, .int tk), (3, .int wh)], [.int (-100001)], [(0, .inr (9, [.int m_fans, .ref 1, .int m_things, .ref 2, .int m_people, .ref 3, .ref 4, .ref 5, .int m_sentences, .ref 6, .ref 7, .int m_stalls, .ref 8, .ref 9, .int m_told, .ref 10, .ref 11, .int m_taped, .int m_at, .int m_wrong, .ref 12, .ref 13, .ref 14, .ref 15, .ref 16, .ref 17, .int m_isImage, .ref 18, .ref 19, .ref 20, .ref 21])), (2, .inl (0, 50, .inl m_parts))]) [] rfl trivial ?_
      obtain rfl := Option.some.inj hF
      exact Tr_i qX9_at 20 rfl rfl ⟨rfl, rfl⟩
    · replace hF := gneg hb6 hF
      refine Go.run qX9_at IX9_ok 7 4 (19, [(0, .ref 0), (1, .int th), (2, .int tk), (3, .int wh)], [.long 1, .long 0, .long wh.toInt64], [(0, .inr (9, [.int m_fans, .ref 1, .int m_things, .ref 2, .int m_people, .ref 3, .ref 4, .ref 5, .int m_sentences, .ref 6, .ref 7, .int m_stalls, .ref 8, .ref 9, .int m_told, .ref 10, .ref 11, .int m_taped, .int m_at, .int m_wrong, .ref 12, .ref 13, .ref 14, .ref 15, .ref 16, .ref 17, .int m_isImage, .ref 18, .ref 19, .ref 20, .ref 21])), (2, .inl (0, 50, .inl m_parts))]) [] rfl trivial ?_
      obtain ⟨r7, h8, hF⟩ := gbind hF
      refine Tk_s qX9_at 11 rfl (c_X9_in wh.toInt64 0 1 r7 h8) kX9_84 (gr []) [] rfl rfl rfl rfl ⟨rfl, rfl, by decide, by decide⟩ [] rfl (Nat.le_of_ble_eq_true rfl) [.int r7] rfl [(0, .inr (9, [.int m_fans, .ref 1, .int m_things, .ref 2, .int m_people, .ref 3, .ref 4, .ref 5, .int m_sentences, .ref 6, .ref 7, .int m_stalls, .ref 8, .ref 9, .int m_told, .ref 10, .ref 11, .int m_taped, .int m_at, .int m_wrong, .ref 12, .ref 13, .ref 14, .ref 15, .ref 16, .ref 17, .int m_isImage, .ref 18, .ref 19, .ref 20, .ref 21])), (2, .inl (0, 50, .inl m_parts))] rfl ?_
      refine Ti_eq qX9_at 12 13 35 rfl rfl (fun hb9 => ?_) (fun hb9 => ?_)
      · replace hF := gpos hb9 hF
        refine Go.run qX9_at IX9_ok 19 1 (37, [(0, .ref 0), (1, .int th), (2, .int tk), (3, .int wh)], [.int (-100001)], [(0, .inr (9, [.int m_fans, .ref 1, .int m_things, .ref 2, .int m_people, .ref 3, .ref 4, .ref 5, .int m_sentences, .ref 6, .ref 7, .int m_stalls, .ref 8, .ref 9, .int m_told, .ref 10, .ref 11, .int m_taped, .int m_at, .int m_wrong, .ref 12, .ref 13, .ref 14, .ref 15, .ref 16, .ref 17, .int m_isImage, .ref 18, .ref 19, .ref 20, .ref 21])), (2, .inl (0, 50, .inl m_parts))]) [] rfl trivial ?_
        obtain rfl := Option.some.inj hF
        exact Tr_i qX9_at 20 rfl rfl ⟨rfl, rfl⟩
      · replace hF := gneg hb9 hF
        refine Go.run qX9_at IX9_ok 13 4 (29, [(0, .ref 0), (1, .int th), (2, .int tk), (3, .int wh)], [.int wh, .int tk, .int th, .ref 0], [(0, .inr (9, [.int m_fans, .ref 1, .int m_things, .ref 2, .int m_people, .ref 3, .ref 4, .ref 5, .int m_sentences, .ref 6, .ref 7, .int m_stalls, .ref 8, .ref 9, .int m_told, .ref 10, .ref 11, .int m_taped, .int m_at, .int m_wrong, .ref 12, .ref 13, .ref 14, .ref 15, .ref 16, .ref 17, .int m_isImage, .ref 18, .ref 19, .ref 20, .ref 21])), (2, .inl (0, 50, .inl m_parts))]) [] rfl trivial ?_
        obtain ⟨r10, h11, hF⟩ := gbind hF
        refine Tk_v0 qX9_at 17 rfl (c_X9_middle m_fans m_things m_people m_sentences m_stalls m_told m_taped m_at m_wrong m_isImage m_parts th tk wh r10 h11) kX9_123_9 0 rfl rfl [0, 1] rfl rfl rfl rfl ⟨rfl, rfl, by decide, by decide⟩ [] rfl (Nat.le_of_ble_eq_true rfl) [.int r10] rfl [(0, .inr (9, [.int m_fans, .ref 1, .int m_things, .ref 2, .int m_people, .ref 3, .ref 4, .ref 5, .int m_sentences, .ref 6, .ref 7, .int m_stalls, .ref 8, .ref 9, .int m_told, .ref 10, .ref 11, .int m_taped, .int m_at, .int m_wrong, .ref 12, .ref 13, .ref 14, .ref 15, .ref 16, .ref 17, .int m_isImage, .ref 18, .ref 19, .ref 20, .ref 21])), (2, .inl (0, 50, .inl m_parts))] rfl ?_
        refine Go.run qX9_at IX9_ok 18 1 (37, [(0, .ref 0), (1, .int th), (2, .int tk), (3, .int wh)], [.int r10], [(0, .inr (9, [.int m_fans, .ref 1, .int m_things, .ref 2, .int m_people, .ref 3, .ref 4, .ref 5, .int m_sentences, .ref 6, .ref 7, .int m_stalls, .ref 8, .ref 9, .int m_told, .ref 10, .ref 11, .int m_taped, .int m_at, .int m_wrong, .ref 12, .ref 13, .ref 14, .ref 15, .ref 16, .ref 17, .int m_isImage, .ref 18, .ref 19, .ref 20, .ref 21])), (2, .inl (0, 50, .inl m_parts))]) [] rfl trivial ?_
        obtain rfl := Option.some.inj hF
        exact Tr_i qX9_at 20 rfl rfl ⟨rfl, rfl⟩
def R_X9_person : Room := { frames := 2, cells := 0, slots := 0, locals := 46 }
noncomputable def F_X9_person (m_people : Int32) (m_xs : Nat → Int32) (m_ys : Nat → Int32) (x : Int32) (y : Int32) : Option (Int32 × Int32 × (Nat → Int32) × (Nat → Int32)) :=
  (F_X9_isPoint x y).bind fun r1 => if r1 = 0 then (some ((-1), m_people, m_xs, m_ys)) else (if m_people = 6 then (some ((-3), m_people, m_xs, m_ys)) else (if gvp m_people 6 then (if gvp m_people 6 then (some (((m_people + 1) - 1), (m_people + 1), (upd m_xs m_people.toNatClampNeg x), (upd m_ys m_people.toNatClampNeg y))) else none) else none))
set_option maxRecDepth 100000 in
set_option maxHeartbeats 4000000 in
theorem c_X9_person (m_fans : Int32) (m_things : Int32) (m_people : Int32) (m_sentences : Int32) (m_stalls : Int32) (m_told : Int32) (m_taped : Int32) (m_at : Int32) (m_wrong : Int32) (m_isImage : Int32) (m_xs : Nat → Int32) (m_ys : Nat → Int32) (x : Int32) (y : Int32) (rr : Int32 × Int32 × (Nat → Int32) × (Nat → Int32)) (hF : F_X9_person m_people m_xs m_ys x y = some rr) : Cd mX9_person R_X9_person [.ref 0, .int x, .int y] [(0, .inr (9, [.int m_fans, .ref 1, .int m_things, .ref 2, .int m_people, .ref 3, .ref 4, .ref 5, .int m_sentences, .ref 6, .ref 7, .int m_stalls, .ref 8, .ref 9, .int m_told, .ref 10, .ref 11, .int m_taped, .int m_at, .int m_wrong, .ref 12, .ref 13, .ref 14, .ref 15, .ref 16, .ref 17, .int m_isImage, .ref 18, .ref 19, .ref 20, .ref 21])), (3, .inl (0, 6, .inl m_xs)), (4, .inl (0, 6, .inl m_ys))] (some (.int rr.1)) [(0, .inr (9, [.int m_fans, .ref 1, .int m_things, .ref 2, .int rr.2.1, .ref 3, .ref 4, .ref 5, .int m_sentences, .ref 6, .ref 7, .int m_stalls, .ref 8, .ref 9, .int m_told, .ref 10, .ref 11, .int m_taped, .int m_at, .int m_wrong, .ref 12, .ref 13, .ref 14, .ref 15, .ref 16, .ref 17, .int m_isImage, .ref 18, .ref 19, .ref 20, .ref 21])), (3, .inl (0, 6, .inl rr.2.2.1)), (4, .inl (0, 6, .inl rr.2.2.2))] := by
  unfold F_X9_person at hF
  refine Ct.of rfl (Nat.le_of_ble_eq_true rfl) ?_
  refine Go.run qX9_person IX9_ok 0 2 (2, [(0, .ref 0), (1, .int x), (2, .int y)], [.int y, .int x], [(0, .inr (9, [.int m_fans, .ref 1, .int m_things, .ref 2, .int m_people, .ref 3, .ref 4, .ref 5, .int m_sentences, .ref 6, .ref 7, .int m_stalls, .ref 8, .ref 9, .int m_told, .ref 10, .ref 11, .int m_taped, .int m_at, .int m_wrong, .ref 12, .ref 13, .ref 14, .ref 15, .ref 16, .ref 17, .int m_isImage, .ref 18, .ref 19, .ref 20, .ref 21])), (3, .inl (0, 6, .inl m_xs)), (4, .inl (0, 6, .inl m_ys))]) [] rfl trivial ?_
  obtain ⟨r1, h2, hF⟩ := gbind hF
  refine Tk_s qX9_person 2 rfl (c_X9_isPoint x y r1 h2) kX9_100 (gr []) [] rfl rfl rfl rfl ⟨rfl, rfl, by decide, by decide⟩ [] rfl (Nat.le_of_ble_eq_true rfl) [.int r1] rfl [(0, .inr (9, [.int m_fans, .ref 1, .int m_things, .ref 2, .int m_people, .ref 3, .ref 4, .ref 5, .int m_sentences, .ref 6, .ref 7, .int m_stalls, .ref 8, .ref 9, .int m_told, .ref 10, .ref 11, .int m_taped, .int m_at, .int m_wrong, .ref 12, .ref 13, .ref 14, .ref 15, .ref 16, .ref 17, .int m_isImage, .ref 18, .ref 19, .ref 20, .ref 21])), (3, .inl (0, 6, .inl m_xs)), (4, .inl (0, 6, .inl m_ys))] rfl ?_
  refine Ti_ne qX9_person 3 5 10 rfl rfl (fun hb3 => ?_) (fun hb3 => ?_)
  · replace hF := gneg hb3 hF
    refine Go.run qX9_person IX9_ok 6 3 (16, [(0, .ref 0), (1, .int x), (2, .int y)], [.int 6, .int m_people], [(0, .inr (9, [.int m_fans, .ref 1, .int m_things, .ref 2, .int m_people, .ref 3, .ref 4, .ref 5, .int m_sentences, .ref 6, .ref 7, .int m_stalls, .ref 8, .ref 9, .int m_told, .ref 10, .ref 11, .int m_taped, .int m_at, .int m_wrong, .ref 12, .ref 13, .ref 14, .ref 15, .ref 16, .ref 17, .int m_isImage, .ref 18, .ref 19, .ref 20, .ref 21])), (3, .inl (0, 6, .inl m_xs)), (4, .inl (0, 6, .inl m_ys))]) [] rfl trivial ?_
    refine Tc_ne qX9_person 9 6 22 rfl rfl (fun hb4 => ?_) (fun hb4 => ?_)
    · replace hF := gneg hb4 hF
      obtain ⟨hc5, hF⟩ := gif hF
      obtain ⟨hc6, hF⟩ := gif hF
      refine Go.run qX9_person IX9_ok 12 22 (58, [(0, .ref 0), (1, .int x), (2, .int y)], [.int ((m_people + 1) - 1)], [(0, .inr (9, [.int m_fans, .ref 1, .int m_things, .ref 2, .int (m_people + 1), .ref 3, .ref 4, .ref 5, .int m_sentences, .ref 6, .ref 7, .int m_stalls, .ref 8, .ref 9, .int m_told, .ref 10, .ref 11, .int m_taped, .int m_at, .int m_wrong, .ref 12, .ref 13, .ref 14, .ref 15, .ref 16, .ref 17, .int m_isImage, .ref 18, .ref 19, .ref 20, .ref 21])), (3, .inl (0, 6, .inl (upd m_xs m_people.toNatClampNeg x))), (4, .inl (0, 6, .inl (upd m_ys m_people.toNatClampNeg y)))]) [gvp m_people 6, gvp m_people 6] rfl ⟨hc5, hc6, trivial⟩ ?_
      obtain rfl := Option.some.inj hF
      exact Tr_i qX9_person 34 rfl rfl ⟨rfl, rfl⟩
    · replace hF := gpos hb4 hF
      refine Go.run qX9_person IX9_ok 10 1 (21, [(0, .ref 0), (1, .int x), (2, .int y)], [.int (-3)], [(0, .inr (9, [.int m_fans, .ref 1, .int m_things, .ref 2, .int m_people, .ref 3, .ref 4, .ref 5, .int m_sentences, .ref 6, .ref 7, .int m_stalls, .ref 8, .ref 9, .int m_told, .ref 10, .ref 11, .int m_taped, .int m_at, .int m_wrong, .ref 12, .ref 13, .ref 14, .ref 15, .ref 16, .ref 17, .int m_isImage, .ref 18, .ref 19, .ref 20, .ref 21])), (3, .inl (0, 6, .inl m_xs)), (4, .inl (0, 6, .inl m_ys))]) [] rfl trivial ?_
      obtain rfl := Option.some.inj hF
      exact Tr_i qX9_person 11 rfl rfl ⟨rfl, rfl⟩
  · replace hF := gpos hb3 hF
    refine Go.run qX9_person IX9_ok 4 1 (9, [(0, .ref 0), (1, .int x), (2, .int y)], [.int (-1)], [(0, .inr (9, [.int m_fans, .ref 1, .int m_things, .ref 2, .int m_people, .ref 3, .ref 4, .ref 5, .int m_sentences, .ref 6, .ref 7, .int m_stalls, .ref 8, .ref 9, .int m_told, .ref 10, .ref 11, .int m_taped, .int m_at, .int m_wrong, .ref 12, .ref 13, .ref 14, .ref 15, .ref 16, .ref 17, .int m_isImage, .ref 18, .ref 19, .ref 20, .ref 21])), (3, .inl (0, 6, .inl m_xs)), (4, .inl (0, 6, .inl m_ys))]) [] rfl trivial ?_
    obtain rfl := Option.some.inj hF
    exact Tr_i qX9_person 5 rfl rfl ⟨rfl, rfl⟩
def R_X9_walk : Room := { frames := 2, cells := 0, slots := 0, locals := 46 }
noncomputable def F_X9_walk (m_people : Int32) (m_xs : Nat → Int32) (m_ys : Nat → Int32) (p : Int32) (x : Int32) (y : Int32) : Option (Int32 × (Nat → Int32) × (Nat → Int32)) :=
  (F_X9_isOne m_people p).bind fun r1 => if r1 = 0 then (some ((-1), m_xs, m_ys)) else ((F_X9_isPoint x y).bind fun r4 => if r4 = 0 then (some ((-1), m_xs, m_ys)) else (if gvp p 6 then (if gvp p 6 then (if gvp p 6 then (if gvp p 6 then (some (((100 * (m_xs p.toNatClampNeg)) + (m_ys p.toNatClampNeg)), (upd m_xs p.toNatClampNeg x), (upd m_ys p.toNatClampNeg y))) else none) else none) else none) else none))
set_option maxRecDepth 100000 in
set_option maxHeartbeats 4000000 in
theorem c_X9_walk (m_fans : Int32) (m_things : Int32) (m_people : Int32) (m_sentences : Int32) (m_stalls : Int32) (m_told : Int32) (m_taped : Int32) (m_at : Int32) (m_wrong : Int32) (m_isImage : Int32) (m_xs : Nat → Int32) (m_ys : Nat → Int32) (p : Int32) (x : Int32) (y : Int32) (rr : Int32 × (Nat → Int32) × (Nat → Int32)) (hF : F_X9_walk m_people m_xs m_ys p x y = some rr) : Cd mX9_walk R_X9_walk [.ref 0, .int p, .int x, .int y] [(0, .inr (9, [.int m_fans, .ref 1, .int m_things, .ref 2, .int m_people, .ref 3, .ref 4, .ref 5, .int m_sentences, .ref 6, .ref 7, .int m_stalls, .ref 8, .ref 9, .int m_told, .ref 10, .ref 11, .int m_taped, .int m_at, .int m_wrong, .ref 12, .ref 13, .ref 14, .ref 15, .ref 16, .ref 17, .int m_isImage, .ref 18, .ref 19, .ref 20, .ref 21])), (3, .inl (0, 6, .inl m_xs)), (4, .inl (0, 6, .inl m_ys))] (some (.int rr.1)) [(0, .inr (9, [.int m_fans, .ref 1, .int m_things, .ref 2, .int m_people, .ref 3, .ref 4, .ref 5, .int m_sentences, .ref 6, .ref 7, .int m_stalls, .ref 8, .ref 9, .int m_told, .ref 10, .ref 11, .int m_taped, .int m_at, .int m_wrong, .ref 12, .ref 13, .ref 14, .ref 15, .ref 16, .ref 17, .int m_isImage, .ref 18, .ref 19, .ref 20, .ref 21])), (3, .inl (0, 6, .inl rr.2.1)), (4, .inl (0, 6, .inl rr.2.2))] := by
  unfold F_X9_walk at hF
  refine Ct.of rfl (Nat.le_of_ble_eq_true rfl) ?_
  refine Go.run qX9_walk IX9_ok 0 2 (2, [(0, .ref 0), (1, .int p), (2, .int x), (3, .int y)], [.int p, .ref 0], [(0, .inr (9, [.int m_fans, .ref 1, .int m_things, .ref 2, .int m_people, .ref 3, .ref 4, .ref 5, .int m_sentences, .ref 6, .ref 7, .int m_stalls, .ref 8, .ref 9, .int m_told, .ref 10, .ref 11, .int m_taped, .int m_at, .int m_wrong, .ref 12, .ref 13, .ref 14, .ref 15, .ref 16, .ref 17, .int m_isImage, .ref 18, .ref 19, .ref 20, .ref 21])), (3, .inl (0, 6, .inl m_xs)), (4, .inl (0, 6, .inl m_ys))]) [] rfl trivial ?_
  obtain ⟨r1, h2, hF⟩ := gbind hF
  refine Tk_v0 qX9_walk 2 rfl (c_X9_isOne m_fans m_things m_people m_sentences m_stalls m_told m_taped m_at m_wrong m_isImage p r1 h2) kX9_127_9 0 rfl rfl [0] rfl rfl rfl rfl ⟨rfl, rfl, by decide, by decide⟩ [] rfl (Nat.le_of_ble_eq_true rfl) [.int r1] rfl [(0, .inr (9, [.int m_fans, .ref 1, .int m_things, .ref 2, .int m_people, .ref 3, .ref 4, .ref 5, .int m_sentences, .ref 6, .ref 7, .int m_stalls, .ref 8, .ref 9, .int m_told, .ref 10, .ref 11, .int m_taped, .int m_at, .int m_wrong, .ref 12, .ref 13, .ref 14, .ref 15, .ref 16, .ref 17, .int m_isImage, .ref 18, .ref 19, .ref 20, .ref 21])), (3, .inl (0, 6, .inl m_xs)), (4, .inl (0, 6, .inl m_ys))] rfl ?_
  refine Ti_eq qX9_walk 3 11 16 rfl rfl (fun hb3 => ?_) (fun hb3 => ?_)
  · replace hF := gpos hb3 hF
    refine Go.run qX9_walk IX9_ok 8 1 (17, [(0, .ref 0), (1, .int p), (2, .int x), (3, .int y)], [.int (-1)], [(0, .inr (9, [.int m_fans, .ref 1, .int m_things, .ref 2, .int m_people, .ref 3, .ref 4, .ref 5, .int m_sentences, .ref 6, .ref 7, .int m_stalls, .ref 8, .ref 9, .int m_told, .ref 10, .ref 11, .int m_taped, .int m_at, .int m_wrong, .ref 12, .ref 13, .ref 14, .ref 15, .ref 16, .ref 17, .int m_isImage, .ref 18, .ref 19, .ref 20, .ref 21])), (3, .inl (0, 6, .inl m_xs)), (4, .inl (0, 6, .inl m_ys))]) [] rfl trivial ?_
    obtain rfl := Option.some.inj hF
    exact Tr_i qX9_walk 9 rfl rfl ⟨rfl, rfl⟩
  · replace hF := gneg hb3 hF
    refine Go.run qX9_walk IX9_ok 4 2 (10, [(0, .ref 0), (1, .int p), (2, .int x), (3, .int y)], [.int y, .int x], [(0, .inr (9, [.int m_fans, .ref 1, .int m_things, .ref 2, .int m_people, .ref 3, .ref 4, .ref 5, .int m_sentences, .ref 6, .ref 7, .int m_stalls, .ref 8, .ref 9, .int m_told, .ref 10, .ref 11, .int m_taped, .int m_at, .int m_wrong, .ref 12, .ref 13, .ref 14, .ref 15, .ref 16, .ref 17, .int m_isImage, .ref 18, .ref 19, .ref 20, .ref 21])), (3, .inl (0, 6, .inl m_xs)), (4, .inl (0, 6, .inl m_ys))]) [] rfl trivial ?_
    obtain ⟨r4, h5, hF⟩ := gbind hF
    refine Tk_s qX9_walk 6 rfl (c_X9_isPoint x y r4 h5) kX9_100 (gr []) [] rfl rfl rfl rfl ⟨rfl, rfl, by decide, by decide⟩ [] rfl (Nat.le_of_ble_eq_true rfl) [.int r4] rfl [(0, .inr (9, [.int m_fans, .ref 1, .int m_things, .ref 2, .int m_people, .ref 3, .ref 4, .ref 5, .int m_sentences, .ref 6, .ref 7, .int m_stalls, .ref 8, .ref 9, .int m_told, .ref 10, .ref 11, .int m_taped, .int m_at, .int m_wrong, .ref 12, .ref 13, .ref 14, .ref 15, .ref 16, .ref 17, .int m_isImage, .ref 18, .ref 19, .ref 20, .ref 21])), (3, .inl (0, 6, .inl m_xs)), (4, .inl (0, 6, .inl m_ys))] rfl ?_
    refine Ti_ne qX9_walk 7 5 18 rfl rfl (fun hb6 => ?_) (fun hb6 => ?_)
    · replace hF := gneg hb6 hF
      obtain ⟨hc7, hF⟩ := gif hF
      obtain ⟨hc8, hF⟩ := gif hF
      obtain ⟨hc9, hF⟩ := gif hF
      obtain ⟨hc10, hF⟩ := gif hF
      refine Go.run qX9_walk IX9_ok 10 23 (52, [(4, .int ((100 * (m_xs p.toNatClampNeg)) + (m_ys p.toNatClampNeg))), (0, .ref 0), (1, .int p), (2, .int x), (3, .int y)], [.int ((100 * (m_xs p.toNatClampNeg)) + (m_ys p.toNatClampNeg))], [(0, .inr (9, [.int m_fans, .ref 1, .int m_things, .ref 2, .int m_people, .ref 3, .ref 4, .ref 5, .int m_sentences, .ref 6, .ref 7, .int m_stalls, .ref 8, .ref 9, .int m_told, .ref 10, .ref 11, .int m_taped, .int m_at, .int m_wrong, .ref 12, .ref 13, .ref 14, .ref 15, .ref 16, .ref 17, .int m_isImage, .ref 18, .ref 19, .ref 20, .ref 21])), (3, .inl (0, 6, .inl (upd m_xs p.toNatClampNeg x))), (4, .inl (0, 6, .inl (upd m_ys p.toNatClampNeg y)))]) [gvp p 6, gvp p 6, gvp p 6, gvp p 6] rfl ⟨hc7, hc8, hc9, hc10, trivial⟩ ?_
      obtain rfl := Option.some.inj hF
      exact Tr_i qX9_walk 33 rfl rfl ⟨rfl, rfl⟩
    · replace hF := gpos hb6 hF
      refine Go.run qX9_walk IX9_ok 8 1 (17, [(0, .ref 0), (1, .int p), (2, .int x), (3, .int y)], [.int (-1)], [(0, .inr (9, [.int m_fans, .ref 1, .int m_things, .ref 2, .int m_people, .ref 3, .ref 4, .ref 5, .int m_sentences, .ref 6, .ref 7, .int m_stalls, .ref 8, .ref 9, .int m_told, .ref 10, .ref 11, .int m_taped, .int m_at, .int m_wrong, .ref 12, .ref 13, .ref 14, .ref 15, .ref 16, .ref 17, .int m_isImage, .ref 18, .ref 19, .ref 20, .ref 21])), (3, .inl (0, 6, .inl m_xs)), (4, .inl (0, 6, .inl m_ys))]) [] rfl trivial ?_
      obtain rfl := Option.some.inj hF
      exact Tr_i qX9_walk 9 rfl rfl ⟨rfl, rfl⟩
def R_X9_rule : Room := { frames := 1, cells := 0, slots := 0, locals := 25 }
noncomputable def F_X9_rule (m_laws : Nat → Int32) (wh : Int32) (v : Int32) : Option (Int32 × (Nat → Int32)) :=
  (F_X9_in wh.toInt64 0 1).bind fun r1 => if r1 = 0 then (some ((-1), m_laws)) else ((F_X9_in v.toInt64 0 1).bind fun r4 => if r4 = 0 then (some ((-1), m_laws)) else (if gvp wh 2 then (if gvp wh 2 then (some ((m_laws wh.toNatClampNeg), (upd m_laws wh.toNatClampNeg v))) else none) else none))
set_option maxRecDepth 100000 in
set_option maxHeartbeats 4000000 in
theorem c_X9_rule (m_fans : Int32) (m_things : Int32) (m_people : Int32) (m_sentences : Int32) (m_stalls : Int32) (m_told : Int32) (m_taped : Int32) (m_at : Int32) (m_wrong : Int32) (m_isImage : Int32) (m_laws : Nat → Int32) (wh : Int32) (v : Int32) (rr : Int32 × (Nat → Int32)) (hF : F_X9_rule m_laws wh v = some rr) : Cd mX9_rule R_X9_rule [.ref 0, .int wh, .int v] [(0, .inr (9, [.int m_fans, .ref 1, .int m_things, .ref 2, .int m_people, .ref 3, .ref 4, .ref 5, .int m_sentences, .ref 6, .ref 7, .int m_stalls, .ref 8, .ref 9, .int m_told, .ref 10, .ref 11, .int m_taped, .int m_at, .int m_wrong, .ref 12, .ref 13, .ref 14, .ref 15, .ref 16, .ref 17, .int m_isImage, .ref 18, .ref 19, .ref 20, .ref 21])), (5, .inl (0, 2, .inl m_laws))] (some (.int rr.1)) [(0, .inr (9, [.int m_fans, .ref 1, .int m_things, .ref 2, .int m_people, .ref 3, .ref 4, .ref 5, .int m_sentences, .ref 6, .ref 7, .int m_stalls, .ref 8, .ref 9, .int m_told, .ref 10, .ref 11, .int m_taped, .int m_at, .int m_wrong, .ref 12, .ref 13, .ref 14, .ref 15, .ref 16, .ref 17, .int m_isImage, .ref 18, .ref 19, .ref 20, .ref 21])), (5, .inl (0, 2, .inl rr.2))] := by
  unfold F_X9_rule at hF
  refine Ct.of rfl (Nat.le_of_ble_eq_true rfl) ?_
  refine Go.run qX9_rule IX9_ok 0 4 (4, [(0, .ref 0), (1, .int wh), (2, .int v)], [.long 1, .long 0, .long wh.toInt64], [(0, .inr (9, [.int m_fans, .ref 1, .int m_things, .ref 2, .int m_people, .ref 3, .ref 4, .ref 5, .int m_sentences, .ref 6, .ref 7, .int m_stalls, .ref 8, .ref 9, .int m_told, .ref 10, .ref 11, .int m_taped, .int m_at, .int m_wrong, .ref 12, .ref 13, .ref 14, .ref 15, .ref 16, .ref 17, .int m_isImage, .ref 18, .ref 19, .ref 20, .ref 21])), (5, .inl (0, 2, .inl m_laws))]) [] rfl trivial ?_
  obtain ⟨r1, h2, hF⟩ := gbind hF
  refine Tk_s qX9_rule 4 rfl (c_X9_in wh.toInt64 0 1 r1 h2) kX9_84 (gr []) [] rfl rfl rfl rfl ⟨rfl, rfl, by decide, by decide⟩ [] rfl (Nat.le_of_ble_eq_true rfl) [.int r1] rfl [(0, .inr (9, [.int m_fans, .ref 1, .int m_things, .ref 2, .int m_people, .ref 3, .ref 4, .ref 5, .int m_sentences, .ref 6, .ref 7, .int m_stalls, .ref 8, .ref 9, .int m_told, .ref 10, .ref 11, .int m_taped, .int m_at, .int m_wrong, .ref 12, .ref 13, .ref 14, .ref 15, .ref 16, .ref 17, .int m_isImage, .ref 18, .ref 19, .ref 20, .ref 21])), (5, .inl (0, 2, .inl m_laws))] rfl ?_
  refine Ti_eq qX9_rule 5 13 20 rfl rfl (fun hb3 => ?_) (fun hb3 => ?_)
  · replace hF := gpos hb3 hF
    refine Go.run qX9_rule IX9_ok 12 1 (21, [(0, .ref 0), (1, .int wh), (2, .int v)], [.int (-1)], [(0, .inr (9, [.int m_fans, .ref 1, .int m_things, .ref 2, .int m_people, .ref 3, .ref 4, .ref 5, .int m_sentences, .ref 6, .ref 7, .int m_stalls, .ref 8, .ref 9, .int m_told, .ref 10, .ref 11, .int m_taped, .int m_at, .int m_wrong, .ref 12, .ref 13, .ref 14, .ref 15, .ref 16, .ref 17, .int m_isImage, .ref 18, .ref 19, .ref 20, .ref 21])), (5, .inl (0, 2, .inl m_laws))]) [] rfl trivial ?_
    obtain rfl := Option.some.inj hF
    exact Tr_i qX9_rule 13 rfl rfl ⟨rfl, rfl⟩
  · replace hF := gneg hb3 hF
    refine Go.run qX9_rule IX9_ok 6 4 (14, [(0, .ref 0), (1, .int wh), (2, .int v)], [.long 1, .long 0, .long v.toInt64], [(0, .inr (9, [.int m_fans, .ref 1, .int m_things, .ref 2, .int m_people, .ref 3, .ref 4, .ref 5, .int m_sentences, .ref 6, .ref 7, .int m_stalls, .ref 8, .ref 9, .int m_told, .ref 10, .ref 11, .int m_taped, .int m_at, .int m_wrong, .ref 12, .ref 13, .ref 14, .ref 15, .ref 16, .ref 17, .int m_isImage, .ref 18, .ref 19, .ref 20, .ref 21])), (5, .inl (0, 2, .inl m_laws))]) [] rfl trivial ?_
    obtain ⟨r4, h5, hF⟩ := gbind hF
    refine Tk_s qX9_rule 10 rfl (c_X9_in v.toInt64 0 1 r4 h5) kX9_84 (gr []) [] rfl rfl rfl rfl ⟨rfl, rfl, by decide, by decide⟩ [] rfl (Nat.le_of_ble_eq_true rfl) [.int r4] rfl [(0, .inr (9, [.int m_fans, .ref 1, .int m_things, .ref 2, .int m_people, .ref 3, .ref 4, .ref 5, .int m_sentences, .ref 6, .ref 7, .int m_stalls, .ref 8, .ref 9, .int m_told, .ref 10, .ref 11, .int m_taped, .int m_at, .int m_wrong, .ref 12, .ref 13, .ref 14, .ref 15, .ref 16, .ref 17, .int m_isImage, .ref 18, .ref 19, .ref 20, .ref 21])), (5, .inl (0, 2, .inl m_laws))] rfl ?_
    refine Ti_ne qX9_rule 11 5 22 rfl rfl (fun hb6 => ?_) (fun hb6 => ?_)
    · replace hF := gneg hb6 hF
      obtain ⟨hc7, hF⟩ := gif hF
      obtain ⟨hc8, hF⟩ := gif hF
      refine Go.run qX9_rule IX9_ok 14 11 (37, [(3, .int (m_laws wh.toNatClampNeg)), (0, .ref 0), (1, .int wh), (2, .int v)], [.int (m_laws wh.toNatClampNeg)], [(0, .inr (9, [.int m_fans, .ref 1, .int m_things, .ref 2, .int m_people, .ref 3, .ref 4, .ref 5, .int m_sentences, .ref 6, .ref 7, .int m_stalls, .ref 8, .ref 9, .int m_told, .ref 10, .ref 11, .int m_taped, .int m_at, .int m_wrong, .ref 12, .ref 13, .ref 14, .ref 15, .ref 16, .ref 17, .int m_isImage, .ref 18, .ref 19, .ref 20, .ref 21])), (5, .inl (0, 2, .inl (upd m_laws wh.toNatClampNeg v)))]) [gvp wh 2, gvp wh 2] rfl ⟨hc7, hc8, trivial⟩ ?_
      obtain rfl := Option.some.inj hF
      exact Tr_i qX9_rule 25 rfl rfl ⟨rfl, rfl⟩
    · replace hF := gpos hb6 hF
      refine Go.run qX9_rule IX9_ok 12 1 (21, [(0, .ref 0), (1, .int wh), (2, .int v)], [.int (-1)], [(0, .inr (9, [.int m_fans, .ref 1, .int m_things, .ref 2, .int m_people, .ref 3, .ref 4, .ref 5, .int m_sentences, .ref 6, .ref 7, .int m_stalls, .ref 8, .ref 9, .int m_told, .ref 10, .ref 11, .int m_taped, .int m_at, .int m_wrong, .ref 12, .ref 13, .ref 14, .ref 15, .ref 16, .ref 17, .int m_isImage, .ref 18, .ref 19, .ref 20, .ref 21])), (5, .inl (0, 2, .inl m_laws))]) [] rfl trivial ?_
      obtain rfl := Option.some.inj hF
      exact Tr_i qX9_rule 13 rfl rfl ⟨rfl, rfl⟩
def R_X9_type : Room := { frames := 1, cells := 0, slots := 0, locals := 25 }
noncomputable def FL_X9_type_17 (m_taped : Int32) (m_tape : Nat → Int32) (ww : Int64) (k : Int32) (kk54 : Int32 → Option (Int32 × Int32 × (Nat → Int32))) : Nat → Int32 → Option (Int32 × Int32 × (Nat → Int32))
  | 0, _ => none
  | fu + 1, l4_17 => if k ≤ l4_17 then (kk54 l4_17) else ((F_X9_in ((glshr ww (8 * l4_17)) &&& 255) 32 126).bind fun r1172 => if r1172 = 0 then (some ((-1), m_taped, m_tape)) else (FL_X9_type_17 m_taped m_tape ww k kk54 fu (l4_17 + 1)))
noncomputable def FL_X9_type_73 (ww : Int64) (kk115 : Int32 → Int32 → (Nat → Int32) → Option (Int32 × Int32 × (Nat → Int32))) : Nat → Int32 → Int32 → (Nat → Int32) → Option (Int32 × Int32 × (Nat → Int32))
  | 0, _, _, _ => none
  | fu + 1, l4_73, w0_17_73, a11_73 => if l4_73 < 0 then (kk115 l4_73 w0_17_73 a11_73) else (if gvp w0_17_73 100 then (FL_X9_type_73 ww kk115 fu (l4_73 + (-1)) (w0_17_73 + 1) (upd a11_73 w0_17_73.toNatClampNeg ((glshr ww (8 * l4_73)) &&& 255).toInt32)) else none)
noncomputable def F_X9_type (m_taped : Int32) (m_tape : Nat → Int32) (ww : Int64) (k : Int32) : Option (Int32 × Int32 × (Nat → Int32)) :=
  (F_X9_in k.toInt64 1 8).bind fun r1 => if r1 = 0 then (some ((-1), m_taped, m_tape)) else (FL_X9_type_17 m_taped m_tape ww k (fun l4_17 => if (m_taped + k) ≤ 100 then (FL_X9_type_73 ww (fun l4_73 w0_17_73 a11_73 => some (w0_17_73, w0_17_73, a11_73)) gN0 (k - 1) m_taped m_tape) else (some ((-3), m_taped, m_tape))) gN0 0)
set_option maxRecDepth 100000 in
set_option maxHeartbeats 4000000 in
theorem t_X9_type_17 (m_fans : Int32) (m_things : Int32) (m_people : Int32) (m_sentences : Int32) (m_stalls : Int32) (m_told : Int32) (m_taped : Int32) (m_at : Int32) (m_wrong : Int32) (m_isImage : Int32) (m_tape : Nat → Int32) (ww : Int64) (k : Int32) (kk54 : Int32 → Option (Int32 × Int32 × (Nat → Int32))) (rr : Int32 × Int32 × (Nat → Int32))  (hk54 : ∀ (l4_17 : Int32), kk54 l4_17 = some rr → Go mX9_type R_X9_type (gRet mX9_type (fun r0 w0 => r0 = some (.int rr.1) ∧ w0 = [(0, .inr (9, [.int m_fans, .ref 1, .int m_things, .ref 2, .int m_people, .ref 3, .ref 4, .ref 5, .int m_sentences, .ref 6, .ref 7, .int m_stalls, .ref 8, .ref 9, .int m_told, .ref 10, .ref 11, .int rr.2.1, .int m_at, .int m_wrong, .ref 12, .ref 13, .ref 14, .ref 15, .ref 16, .ref 17, .int m_isImage, .ref 18, .ref 19, .ref 20, .ref 21])), (11, .inl (0, 100, .inl rr.2.2))])) (54, [(0, .ref 0), (1, .long ww), (3, .int k), (4, .int l4_17)], [], [(0, .inr (9, [.int m_fans, .ref 1, .int m_things, .ref 2, .int m_people, .ref 3, .ref 4, .ref 5, .int m_sentences, .ref 6, .ref 7, .int m_stalls, .ref 8, .ref 9, .int m_told, .ref 10, .ref 11, .int m_taped, .int m_at, .int m_wrong, .ref 12, .ref 13, .ref 14, .ref 15, .ref 16, .ref 17, .int m_isImage, .ref 18, .ref 19, .ref 20, .ref 21])), (11, .inl (0, 100, .inl m_tape))])) : ∀ (fu : Nat) (l4_17 : Int32), FL_X9_type_17 m_taped m_tape ww k kk54 fu l4_17 = some rr → Go mX9_type R_X9_type (gRet mX9_type (fun r0 w0 => r0 = some (.int rr.1) ∧ w0 = [(0, .inr (9, [.int m_fans, .ref 1, .int m_things, .ref 2, .int m_people, .ref 3, .ref 4, .ref 5, .int m_sentences, .ref 6, .ref 7, .int m_stalls, .ref 8, .ref 9, .int m_told, .ref 10, .ref 11, .int rr.2.1, .int m_at, .int m_wrong, .ref 12, .ref 13, .ref 14, .ref 15, .ref 16, .ref 17, .int m_isImage, .ref 18, .ref 19, .ref 20, .ref 21])), (11, .inl (0, 100, .inl rr.2.2))])) (17, [(0, .ref 0), (1, .long ww), (3, .int k), (4, .int l4_17)], [], [(0, .inr (9, [.int m_fans, .ref 1, .int m_things, .ref 2, .int m_people, .ref 3, .ref 4, .ref 5, .int m_sentences, .ref 6, .ref 7, .int m_stalls, .ref 8, .ref 9, .int m_told, .ref 10, .ref 11, .int m_taped, .int m_at, .int m_wrong, .ref 12, .ref 13, .ref 14, .ref 15, .ref 16, .ref 17, .int m_isImage, .ref 18, .ref 19, .ref 20, .ref 21])), (11, .inl (0, 100, .inl m_tape))]) := by
  intro fu
  induction fu with
  | zero =>
    intro l4_17 hF
    cases hF
  | succ fu ih =>
    intro l4_17 hF
    unfold FL_X9_type_17 at hF
    refine Go.run qX9_type IX9_ok 10 2 (20, [(0, .ref 0), (1, .long ww), (3, .int k), (4, .int l4_17)], [.int k, .int l4_17], [(0, .inr (9, [.int m_fans, .ref 1, .int m_things, .ref 2, .int m_people, .ref 3, .ref 4, .ref 5, .int m_sentences, .ref 6, .ref 7, .int m_stalls, .ref 8, .ref 9, .int m_told, .ref 10, .ref 11, .int m_taped, .int m_at, .int m_wrong, .ref 12, .ref 13, .ref 14, .ref 15, .ref 16, .ref 17, .int m_isImage, .ref 18, .ref 19, .ref 20, .ref 21])), (11, .inl (0, 100, .inl m_tape))]) [] rfl trivial ?_
    refine Tc_ge qX9_type 12 34 54 rfl rfl (fun hb1171 => ?_) (fun hb1171 => ?_)
    · replace hF := gpos hb1171 hF
      exact hk54 l4_17 hF
    · replace hF := gneg hb1171 hF
      refine Go.run qX9_type IX9_ok 13 9 (40, [(0, .ref 0), (1, .long ww), (3, .int k), (4, .int l4_17)], [.long 126, .long 32, .long ((glshr ww (8 * l4_17)) &&& 255)], [(0, .inr (9, [.int m_fans, .ref 1, .int m_things, .ref 2, .int m_people, .ref 3, .ref 4, .ref 5, .int m_sentences, .ref 6, .ref 7, .int m_stalls, .ref 8, .ref 9, .int m_told, .ref 10, .ref 11, .int m_taped, .int m_at, .int m_wrong, .ref 12, .ref 13, .ref 14, .ref 15, .ref 16, .ref 17, .int m_isImage, .ref 18, .ref 19, .ref 20, .ref 21])), (11, .inl (0, 100, .inl m_tape))]) [] rfl trivial ?_
      obtain ⟨r1172, h1173, hF⟩ := gbind hF
      refine Tk_s qX9_type 22 rfl (c_X9_in ((glshr ww (8 * l4_17)) &&& 255) 32 126 r1172 h1173) kX9_84 (gr []) [] rfl rfl rfl rfl ⟨rfl, rfl, by decide, by decide⟩ [] rfl (Nat.le_of_ble_eq_true rfl) [.int r1172] rfl [(0, .inr (9, [.int m_fans, .ref 1, .int m_things, .ref 2, .int m_people, .ref 3, .ref 4, .ref 5, .int m_sentences, .ref 6, .ref 7, .int m_stalls, .ref 8, .ref 9, .int m_told, .ref 10, .ref 11, .int m_taped, .int m_at, .int m_wrong, .ref 12, .ref 13, .ref 14, .ref 15, .ref 16, .ref 17, .int m_isImage, .ref 18, .ref 19, .ref 20, .ref 21])), (11, .inl (0, 100, .inl m_tape))] rfl ?_
      refine Ti_ne qX9_type 23 5 48 rfl rfl (fun hb1174 => ?_) (fun hb1174 => ?_)
      · replace hF := gneg hb1174 hF
        refine Go.run qX9_type IX9_ok 26 2 (17, [(4, .int (l4_17 + 1)), (0, .ref 0), (1, .long ww), (3, .int k)], [], [(0, .inr (9, [.int m_fans, .ref 1, .int m_things, .ref 2, .int m_people, .ref 3, .ref 4, .ref 5, .int m_sentences, .ref 6, .ref 7, .int m_stalls, .ref 8, .ref 9, .int m_told, .ref 10, .ref 11, .int m_taped, .int m_at, .int m_wrong, .ref 12, .ref 13, .ref 14, .ref 15, .ref 16, .ref 17, .int m_isImage, .ref 18, .ref 19, .ref 20, .ref 21])), (11, .inl (0, 100, .inl m_tape))]) [] rfl trivial ?_
        refine Go.loc [1, 2, 3, 0] rfl ?_
        exact ih (l4_17 + 1) hF
      · replace hF := gpos hb1174 hF
        refine Go.run qX9_type IX9_ok 24 1 (47, [(0, .ref 0), (1, .long ww), (3, .int k), (4, .int l4_17)], [.int (-1)], [(0, .inr (9, [.int m_fans, .ref 1, .int m_things, .ref 2, .int m_people, .ref 3, .ref 4, .ref 5, .int m_sentences, .ref 6, .ref 7, .int m_stalls, .ref 8, .ref 9, .int m_told, .ref 10, .ref 11, .int m_taped, .int m_at, .int m_wrong, .ref 12, .ref 13, .ref 14, .ref 15, .ref 16, .ref 17, .int m_isImage, .ref 18, .ref 19, .ref 20, .ref 21])), (11, .inl (0, 100, .inl m_tape))]) [] rfl trivial ?_
        obtain rfl := Option.some.inj hF
        exact Tr_i qX9_type 25 rfl rfl ⟨rfl, rfl⟩
set_option maxRecDepth 100000 in
set_option maxHeartbeats 4000000 in
theorem t_X9_type_73 (m_fans : Int32) (m_things : Int32) (m_people : Int32) (m_sentences : Int32) (m_stalls : Int32) (m_told : Int32) (m_taped : Int32) (m_at : Int32) (m_wrong : Int32) (m_isImage : Int32) (m_tape : Nat → Int32) (ww : Int64) (k : Int32) (kk115 : Int32 → Int32 → (Nat → Int32) → Option (Int32 × Int32 × (Nat → Int32))) (rr : Int32 × Int32 × (Nat → Int32))  (hk115 : ∀ (l4_73 : Int32) (w0_17_73 : Int32) (a11_73 : Nat → Int32), kk115 l4_73 w0_17_73 a11_73 = some rr → Go mX9_type R_X9_type (gRet mX9_type (fun r0 w0 => r0 = some (.int rr.1) ∧ w0 = [(0, .inr (9, [.int m_fans, .ref 1, .int m_things, .ref 2, .int m_people, .ref 3, .ref 4, .ref 5, .int m_sentences, .ref 6, .ref 7, .int m_stalls, .ref 8, .ref 9, .int m_told, .ref 10, .ref 11, .int rr.2.1, .int m_at, .int m_wrong, .ref 12, .ref 13, .ref 14, .ref 15, .ref 16, .ref 17, .int m_isImage, .ref 18, .ref 19, .ref 20, .ref 21])), (11, .inl (0, 100, .inl rr.2.2))])) (115, [(0, .ref 0), (1, .long ww), (3, .int k), (4, .int l4_73)], [], [(0, .inr (9, [.int m_fans, .ref 1, .int m_things, .ref 2, .int m_people, .ref 3, .ref 4, .ref 5, .int m_sentences, .ref 6, .ref 7, .int m_stalls, .ref 8, .ref 9, .int m_told, .ref 10, .ref 11, .int w0_17_73, .int m_at, .int m_wrong, .ref 12, .ref 13, .ref 14, .ref 15, .ref 16, .ref 17, .int m_isImage, .ref 18, .ref 19, .ref 20, .ref 21])), (11, .inl (0, 100, .inl a11_73))])) : ∀ (fu : Nat) (l4_73 : Int32) (w0_17_73 : Int32) (a11_73 : Nat → Int32), FL_X9_type_73 ww kk115 fu l4_73 w0_17_73 a11_73 = some rr → Go mX9_type R_X9_type (gRet mX9_type (fun r0 w0 => r0 = some (.int rr.1) ∧ w0 = [(0, .inr (9, [.int m_fans, .ref 1, .int m_things, .ref 2, .int m_people, .ref 3, .ref 4, .ref 5, .int m_sentences, .ref 6, .ref 7, .int m_stalls, .ref 8, .ref 9, .int m_told, .ref 10, .ref 11, .int rr.2.1, .int m_at, .int m_wrong, .ref 12, .ref 13, .ref 14, .ref 15, .ref 16, .ref 17, .int m_isImage, .ref 18, .ref 19, .ref 20, .ref 21])), (11, .inl (0, 100, .inl rr.2.2))])) (73, [(0, .ref 0), (1, .long ww), (3, .int k), (4, .int l4_73)], [], [(0, .inr (9, [.int m_fans, .ref 1, .int m_things, .ref 2, .int m_people, .ref 3, .ref 4, .ref 5, .int m_sentences, .ref 6, .ref 7, .int m_stalls, .ref 8, .ref 9, .int m_told, .ref 10, .ref 11, .int w0_17_73, .int m_at, .int m_wrong, .ref 12, .ref 13, .ref 14, .ref 15, .ref 16, .ref 17, .int m_isImage, .ref 18, .ref 19, .ref 20, .ref 21])), (11, .inl (0, 100, .inl a11_73))]) := by
  intro fu
  induction fu with
  | zero =>
    intro l4_73 w0_17_73 a11_73 hF
    cases hF
  | succ fu ih =>
    intro l4_73 w0_17_73 a11_73 hF
    unfold FL_X9_type_73 at hF
    refine Go.run qX9_type IX9_ok 40 1 (75, [(0, .ref 0), (1, .long ww), (3, .int k), (4, .int l4_73)], [.int l4_73], [(0, .inr (9, [.int m_fans, .ref 1, .int m_things, .ref 2, .int m_people, .ref 3, .ref 4, .ref 5, .int m_sentences, .ref 6, .ref 7, .int m_stalls, .ref 8, .ref 9, .int m_told, .ref 10, .ref 11, .int w0_17_73, .int m_at, .int m_wrong, .ref 12, .ref 13, .ref 14, .ref 15, .ref 16, .ref 17, .int m_isImage, .ref 18, .ref 19, .ref 20, .ref 21])), (11, .inl (0, 100, .inl a11_73))]) [] rfl trivial ?_
    refine Ti_lt qX9_type 41 40 115 rfl rfl (fun hb1731 => ?_) (fun hb1731 => ?_)
    · replace hF := gpos hb1731 hF
      exact hk115 l4_73 w0_17_73 a11_73 hF
    · replace hF := gneg hb1731 hF
      obtain ⟨hc1732, hF⟩ := gif hF
      refine Go.run qX9_type IX9_ok 42 21 (73, [(4, .int (l4_73 + (-1))), (0, .ref 0), (1, .long ww), (3, .int k)], [], [(0, .inr (9, [.int m_fans, .ref 1, .int m_things, .ref 2, .int m_people, .ref 3, .ref 4, .ref 5, .int m_sentences, .ref 6, .ref 7, .int m_stalls, .ref 8, .ref 9, .int m_told, .ref 10, .ref 11, .int (w0_17_73 + 1), .int m_at, .int m_wrong, .ref 12, .ref 13, .ref 14, .ref 15, .ref 16, .ref 17, .int m_isImage, .ref 18, .ref 19, .ref 20, .ref 21])), (11, .inl (0, 100, .inl (upd a11_73 w0_17_73.toNatClampNeg ((glshr ww (8 * l4_73)) &&& 255).toInt32)))]) [gvp w0_17_73 100] rfl ⟨hc1732, trivial⟩ ?_
      refine Go.loc [1, 2, 3, 0] rfl ?_
      exact ih (l4_73 + (-1)) (w0_17_73 + 1) (upd a11_73 w0_17_73.toNatClampNeg ((glshr ww (8 * l4_73)) &&& 255).toInt32) hF
set_option maxRecDepth 100000 in
set_option maxHeartbeats 4000000 in
theorem c_X9_type (m_fans : Int32) (m_things : Int32) (m_people : Int32) (m_sentences : Int32) (m_stalls : Int32) (m_told : Int32) (m_taped : Int32) (m_at : Int32) (m_wrong : Int32) (m_isImage : Int32) (m_tape : Nat → Int32) (ww : Int64) (k : Int32) (rr : Int32 × Int32 × (Nat → Int32)) (hF : F_X9_type m_taped m_tape ww k = some rr) : Cd mX9_type R_X9_type [.ref 0, .long ww, .int k] [(0, .inr (9, [.int m_fans, .ref 1, .int m_things, .ref 2, .int m_people, .ref 3, .ref 4, .ref 5, .int m_sentences, .ref 6, .ref 7, .int m_stalls, .ref 8, .ref 9, .int m_told, .ref 10, .ref 11, .int m_taped, .int m_at, .int m_wrong, .ref 12, .ref 13, .ref 14, .ref 15, .ref 16, .ref 17, .int m_isImage, .ref 18, .ref 19, .ref 20, .ref 21])), (11, .inl (0, 100, .inl m_tape))] (some (.int rr.1)) [(0, .inr (9, [.int m_fans, .ref 1, .int m_things, .ref 2, .int m_people, .ref 3, .ref 4, .ref 5, .int m_sentences, .ref 6, .ref 7, .int m_stalls, .ref 8, .ref 9, .int m_told, .ref 10, .ref 11, .int rr.2.1, .int m_at, .int m_wrong, .ref 12, .ref 13, .ref 14, .ref 15, .ref 16, .ref 17, .int m_isImage, .ref 18, .ref 19, .ref 20, .ref 21])), (11, .inl (0, 100, .inl rr.2.2))] := by
  unfold F_X9_type at hF
  refine Ct.of rfl (Nat.le_of_ble_eq_true rfl) ?_
  refine Go.run qX9_type IX9_ok 0 4 (6, [(0, .ref 0), (1, .long ww), (3, .int k)], [.long 8, .long 1, .long k.toInt64], [(0, .inr (9, [.int m_fans, .ref 1, .int m_things, .ref 2, .int m_people, .ref 3, .ref 4, .ref 5, .int m_sentences, .ref 6, .ref 7, .int m_stalls, .ref 8, .ref 9, .int m_told, .ref 10, .ref 11, .int m_taped, .int m_at, .int m_wrong, .ref 12, .ref 13, .ref 14, .ref 15, .ref 16, .ref 17, .int m_isImage, .ref 18, .ref 19, .ref 20, .ref 21])), (11, .inl (0, 100, .inl m_tape))]) [] rfl trivial ?_
  obtain ⟨r1, h2, hF⟩ := gbind hF
  refine Tk_s qX9_type 4 rfl (c_X9_in k.toInt64 1 8 r1 h2) kX9_84 (gr []) [] rfl rfl rfl rfl ⟨rfl, rfl, by decide, by decide⟩ [] rfl (Nat.le_of_ble_eq_true rfl) [.int r1] rfl [(0, .inr (9, [.int m_fans, .ref 1, .int m_things, .ref 2, .int m_people, .ref 3, .ref 4, .ref 5, .int m_sentences, .ref 6, .ref 7, .int m_stalls, .ref 8, .ref 9, .int m_told, .ref 10, .ref 11, .int m_taped, .int m_at, .int m_wrong, .ref 12, .ref 13, .ref 14, .ref 15, .ref 16, .ref 17, .int m_isImage, .ref 18, .ref 19, .ref 20, .ref 21])), (11, .inl (0, 100, .inl m_tape))] rfl ?_
  refine Ti_ne qX9_type 5 5 14 rfl rfl (fun hb3 => ?_) (fun hb3 => ?_)
  · replace hF := gneg hb3 hF
    refine Go.run qX9_type IX9_ok 8 2 (17, [(4, .int 0), (0, .ref 0), (1, .long ww), (3, .int k)], [], [(0, .inr (9, [.int m_fans, .ref 1, .int m_things, .ref 2, .int m_people, .ref 3, .ref 4, .ref 5, .int m_sentences, .ref 6, .ref 7, .int m_stalls, .ref 8, .ref 9, .int m_told, .ref 10, .ref 11, .int m_taped, .int m_at, .int m_wrong, .ref 12, .ref 13, .ref 14, .ref 15, .ref 16, .ref 17, .int m_isImage, .ref 18, .ref 19, .ref 20, .ref 21])), (11, .inl (0, 100, .inl m_tape))]) [] rfl trivial ?_
    refine Go.loc [1, 2, 3, 0] rfl ?_
    refine t_X9_type_17 m_fans m_things m_people m_sentences m_stalls m_told m_taped m_at m_wrong m_isImage m_tape ww k _ rr (fun l4_17 hF => ?_) gN0 0 hF
    refine Go.run qX9_type IX9_ok 28 5 (62, [(0, .ref 0), (1, .long ww), (3, .int k), (4, .int l4_17)], [.int 100, .int (m_taped + k)], [(0, .inr (9, [.int m_fans, .ref 1, .int m_things, .ref 2, .int m_people, .ref 3, .ref 4, .ref 5, .int m_sentences, .ref 6, .ref 7, .int m_stalls, .ref 8, .ref 9, .int m_told, .ref 10, .ref 11, .int m_taped, .int m_at, .int m_wrong, .ref 12, .ref 13, .ref 14, .ref 15, .ref 16, .ref 17, .int m_isImage, .ref 18, .ref 19, .ref 20, .ref 21])), (11, .inl (0, 100, .inl m_tape))]) [] rfl trivial ?_
    refine Tc_le qX9_type 33 6 68 rfl rfl (fun hb4 => ?_) (fun hb4 => ?_)
    · replace hF := gpos hb4 hF
      refine Go.run qX9_type IX9_ok 36 4 (73, [(4, .int (k - 1)), (0, .ref 0), (1, .long ww), (3, .int k)], [], [(0, .inr (9, [.int m_fans, .ref 1, .int m_things, .ref 2, .int m_people, .ref 3, .ref 4, .ref 5, .int m_sentences, .ref 6, .ref 7, .int m_stalls, .ref 8, .ref 9, .int m_told, .ref 10, .ref 11, .int m_taped, .int m_at, .int m_wrong, .ref 12, .ref 13, .ref 14, .ref 15, .ref 16, .ref 17, .int m_isImage, .ref 18, .ref 19, .ref 20, .ref 21])), (11, .inl (0, 100, .inl m_tape))]) [] rfl trivial ?_
      refine Go.loc [1, 2, 3, 0] rfl ?_
      refine t_X9_type_73 m_fans m_things m_people m_sentences m_stalls m_told m_taped m_at m_wrong m_isImage m_tape ww k _ rr (fun l4_73 w0_17_73 a11_73 hF => ?_) gN0 (k - 1) m_taped m_tape hF
      refine Go.run qX9_type IX9_ok 63 2 (119, [(0, .ref 0), (1, .long ww), (3, .int k), (4, .int l4_73)], [.int w0_17_73], [(0, .inr (9, [.int m_fans, .ref 1, .int m_things, .ref 2, .int m_people, .ref 3, .ref 4, .ref 5, .int m_sentences, .ref 6, .ref 7, .int m_stalls, .ref 8, .ref 9, .int m_told, .ref 10, .ref 11, .int w0_17_73, .int m_at, .int m_wrong, .ref 12, .ref 13, .ref 14, .ref 15, .ref 16, .ref 17, .int m_isImage, .ref 18, .ref 19, .ref 20, .ref 21])), (11, .inl (0, 100, .inl a11_73))]) [] rfl trivial ?_
      obtain rfl := Option.some.inj hF
      exact Tr_i qX9_type 65 rfl rfl ⟨rfl, rfl⟩
    · replace hF := gneg hb4 hF
      refine Go.run qX9_type IX9_ok 34 1 (67, [(0, .ref 0), (1, .long ww), (3, .int k), (4, .int l4_17)], [.int (-3)], [(0, .inr (9, [.int m_fans, .ref 1, .int m_things, .ref 2, .int m_people, .ref 3, .ref 4, .ref 5, .int m_sentences, .ref 6, .ref 7, .int m_stalls, .ref 8, .ref 9, .int m_told, .ref 10, .ref 11, .int m_taped, .int m_at, .int m_wrong, .ref 12, .ref 13, .ref 14, .ref 15, .ref 16, .ref 17, .int m_isImage, .ref 18, .ref 19, .ref 20, .ref 21])), (11, .inl (0, 100, .inl m_tape))]) [] rfl trivial ?_
      obtain rfl := Option.some.inj hF
      exact Tr_i qX9_type 35 rfl rfl ⟨rfl, rfl⟩
  · replace hF := gpos hb3 hF
    refine Go.run qX9_type IX9_ok 6 1 (13, [(0, .ref 0), (1, .long ww), (3, .int k)], [.int (-1)], [(0, .inr (9, [.int m_fans, .ref 1, .int m_things, .ref 2, .int m_people, .ref 3, .ref 4, .ref 5, .int m_sentences, .ref 6, .ref 7, .int m_stalls, .ref 8, .ref 9, .int m_told, .ref 10, .ref 11, .int m_taped, .int m_at, .int m_wrong, .ref 12, .ref 13, .ref 14, .ref 15, .ref 16, .ref 17, .int m_isImage, .ref 18, .ref 19, .ref 20, .ref 21])), (11, .inl (0, 100, .inl m_tape))]) [] rfl trivial ?_
    obtain rfl := Option.some.inj hF
    exact Tr_i qX9_type 7 rfl rfl ⟨rfl, rfl⟩
