/-! Written by wip/gen/law.py: the law's cases. -/
set_option maxRecDepth 100000 in
set_option maxHeartbeats 4000000 in
theorem law_18 {p : Program} {l : Launch} {e : Env} {s : State} {m : MethodId} {args : Array Value} {below : List Frame} {meth : Method} {c : Code} {D : va_G} {ad : Nat → Nat} {cA : Nat → ClassId} {A : Nat → Prop} {H0 : Heap} {Qf : State → Prop} {cl9 sl9 Ln : Nat} {sc : Nat → Int32} {w : gW} (X : Gx p s m args meth c ad A H0 cl9 sl9 Ln sc) {I : Nat} (h7 : I + 7 ≤ Ln) (h : LI w) (kk : ∀ w, LI w → Gl p l e s m args below meth c D ad cA A H0 Qf cl9 sl9 (1600, lvL (nI I), [], w)) : Gl p l e s m args below meth c D ad cA A H0 Qf cl9 sl9 (952, lvL (nI I), [], w) := by
  refine h (fun w => Gl p l e s m args below meth c D ad cA A H0 Qf cl9 sl9 (952, lvL (nI I), [], w)) ?_
  clear h
  intro T P N L O n a fo tu az ik im f pf af lf o g xs ys laws arms talk stX stY tolds szK foK tuK fK pzK pfK azK afK lzK lfK ozK oK img tb fx fy fan ln sn it lanes sizes items tp tl yz yo yt yf xz xf cz cm cl dz dfo dtu df tr ch m_fans m_at m_wrong m_read m_readArms m_some m_few m_laid m_moved hG hI hB hF hK
  have hS := hG.1
  have hT := hG.2.1
  have hL := hG.2.2.1
  have hO := hG.2.2.2
  refine Gl.run X qL_18 0 1 (953, lvL (nI I), [.ref 1], (WD ik fx fy (nI T) fo tu f (nI P) pf az af (nI L) lf (nI O) o szK foK tuK fK pzK pfK azK afK lzK lfK ozK oK (nI n) tp tl tb yz yo yt yf xz xf cz cm cl dz dfo dtu df tr ch (ln 0) (sn 0) (it 0) (ln 1) (sn 1) (it 1) (ln 2) (sn 2) (it 2) (ln 3) (sn 3) (it 3) m_fans (nI T) (nI P) (nI N) (nI L) (nI O) (nI n) m_at m_wrong im fan g xs ys laws arms talk stX stY tolds tb m_read m_readArms m_some m_few m_laid img lanes sizes items m_moved)) rfl ?_
  refine Gl.arg X h7 1 (by decide) qL_18 1 (z := 1) (by decide) rfl ?_
  refine Gl.arg X h7 2 (by decide) qL_18 6 (z := 2) (by decide) rfl ?_
  refine Gl.arg X h7 3 (by decide) qL_18 11 (z := 3) (by decide) rfl ?_
  refine Gl.arg X h7 4 (by decide) qL_18 16 (z := 4) (by decide) rfl ?_
  obtain ⟨r, h1, h2⟩ := eq_share hS hF (sc (I + 1)) (sc (I + 2)) (sc (I + 3)) (sc (I + 4))
  refine Gl.call X qL_18 21 rfl (c_X8_share ik fx fy (nI T) fo tu f (sc (I + 1)) (sc (I + 2)) (sc (I + 3)) (sc (I + 4)) r h1) kL_94 0 rfl rfl (fun k => k + 1) [0, 1, 2, 3, 4, 5, 6] rfl rfl rfl rfl ⟨rfl, rfl, by decide, by decide⟩ [] rfl (Nat.le_of_ble_eq_true rfl) [.int r] rfl (WD ik fx fy (nI T) fo tu f (nI P) pf az af (nI L) lf (nI O) o szK foK tuK fK pzK pfK azK afK lzK lfK ozK oK (nI n) tp tl tb yz yo yt yf xz xf cz cm cl dz dfo dtu df tr ch (ln 0) (sn 0) (it 0) (ln 1) (sn 1) (it 1) (ln 2) (sn 2) (it 2) (ln 3) (sn 3) (it 3) m_fans (nI T) (nI P) (nI N) (nI L) (nI O) (nI n) m_at m_wrong im fan g xs ys laws arms talk stX stY tolds tb m_read m_readArms m_some m_few m_laid img lanes sizes items m_moved) rfl ?_
  refine Gl.run X qL_18 22 1 (977, lvL (nI I), [.ref 50, .int r], (WD ik fx fy (nI T) fo tu f (nI P) pf az af (nI L) lf (nI O) o szK foK tuK fK pzK pfK azK afK lzK lfK ozK oK (nI n) tp tl tb yz yo yt yf xz xf cz cm cl dz dfo dtu df tr ch (ln 0) (sn 0) (it 0) (ln 1) (sn 1) (it 1) (ln 2) (sn 2) (it 2) (ln 3) (sn 3) (it 3) m_fans (nI T) (nI P) (nI N) (nI L) (nI O) (nI n) m_at m_wrong im fan g xs ys laws arms talk stX stY tolds tb m_read m_readArms m_some m_few m_laid img lanes sizes items m_moved)) rfl ?_
  refine Gl.arg X h7 1 (by decide) qL_18 23 (z := 1) (by decide) rfl ?_
  refine Gl.arg X h7 2 (by decide) qL_18 28 (z := 2) (by decide) rfl ?_
  refine Gl.arg X h7 3 (by decide) qL_18 33 (z := 3) (by decide) rfl ?_
  refine Gl.arg X h7 4 (by decide) qL_18 38 (z := 4) (by decide) rfl ?_
  refine Gl.call X qL_18 43 rfl (c_X9_share m_fans (nI T) (nI P) (nI N) (nI L) (nI O) (nI n) m_at m_wrong im fan g laws (sc (I + 1)) (sc (I + 2)) (sc (I + 3)) (sc (I + 4)) r h2) kL_97 0 rfl rfl (fun k => k + 50) [49, 50, 51, 54] rfl rfl rfl rfl ⟨rfl, rfl, by decide, by decide⟩ [.int r] rfl (Nat.le_of_ble_eq_true rfl) [.int r, .int r] rfl (WD ik fx fy (nI T) fo tu f (nI P) pf az af (nI L) lf (nI O) o szK foK tuK fK pzK pfK azK afK lzK lfK ozK oK (nI n) tp tl tb yz yo yt yf xz xf cz cm cl dz dfo dtu df tr ch (ln 0) (sn 0) (it 0) (ln 1) (sn 1) (it 1) (ln 2) (sn 2) (it 2) (ln 3) (sn 3) (it 3) m_fans (nI T) (nI P) (nI N) (nI L) (nI O) (nI n) m_at m_wrong im fan g xs ys laws arms talk stX stY tolds tb m_read m_readArms m_some m_few m_laid img lanes sizes items m_moved) rfl ?_
  refine Gl.same X qL_18 44 600 rfl rfl ?_
  exact kk _ (fun Z k => k T P N L O n a fo tu az ik im f pf af lf o g xs ys laws arms talk stX stY tolds szK foK tuK fK pzK pfK azK afK lzK lfK ozK oK img tb fx fy fan ln sn it lanes sizes items tp tl yz yo yt yf xz xf cz cm cl dz dfo dtu df tr ch m_fans m_at m_wrong m_read m_readArms m_some m_few m_laid m_moved hG hI hB hF hK)
set_option maxRecDepth 100000 in
set_option maxHeartbeats 4000000 in
theorem law_19 {p : Program} {l : Launch} {e : Env} {s : State} {m : MethodId} {args : Array Value} {below : List Frame} {meth : Method} {c : Code} {D : va_G} {ad : Nat → Nat} {cA : Nat → ClassId} {A : Nat → Prop} {H0 : Heap} {Qf : State → Prop} {cl9 sl9 Ln : Nat} {sc : Nat → Int32} {w : gW} (X : Gx p s m args meth c ad A H0 cl9 sl9 Ln sc) {I : Nat} (h7 : I + 7 ≤ Ln) (h : LI w) (kk : ∀ w, LI w → Gl p l e s m args below meth c D ad cA A H0 Qf cl9 sl9 (1600, lvL (nI I), [], w)) : Gl p l e s m args below meth c D ad cA A H0 Qf cl9 sl9 (1005, lvL (nI I), [], w) := by
  refine h (fun w => Gl p l e s m args below meth c D ad cA A H0 Qf cl9 sl9 (1005, lvL (nI I), [], w)) ?_
  clear h
  intro T P N L O n a fo tu az ik im f pf af lf o g xs ys laws arms talk stX stY tolds szK foK tuK fK pzK pfK azK afK lzK lfK ozK oK img tb fx fy fan ln sn it lanes sizes items tp tl yz yo yt yf xz xf cz cm cl dz dfo dtu df tr ch m_fans m_at m_wrong m_read m_readArms m_some m_few m_laid m_moved hG hI hB hF hK
  have hS := hG.1
  have hT := hG.2.1
  have hL := hG.2.2.1
  have hO := hG.2.2.2
  refine Gl.run X qL_19 0 1 (1006, lvL (nI I), [.ref 1], (WD ik fx fy (nI T) fo tu f (nI P) pf az af (nI L) lf (nI O) o szK foK tuK fK pzK pfK azK afK lzK lfK ozK oK (nI n) tp tl tb yz yo yt yf xz xf cz cm cl dz dfo dtu df tr ch (ln 0) (sn 0) (it 0) (ln 1) (sn 1) (it 1) (ln 2) (sn 2) (it 2) (ln 3) (sn 3) (it 3) m_fans (nI T) (nI P) (nI N) (nI L) (nI O) (nI n) m_at m_wrong im fan g xs ys laws arms talk stX stY tolds tb m_read m_readArms m_some m_few m_laid img lanes sizes items m_moved)) rfl ?_
  refine Gl.arg X h7 1 (by decide) qL_19 1 (z := 1) (by decide) rfl ?_
  refine Gl.arg X h7 2 (by decide) qL_19 6 (z := 2) (by decide) rfl ?_
  obtain ⟨r, h1, h2⟩ := eq_ground hS hF (sc (I + 1)) (sc (I + 2))
  refine Gl.call X qL_19 11 rfl (c_X8_ground ik fx fy (nI T) fo tu f (sc (I + 1)) (sc (I + 2)) r h1) kL_98 0 rfl rfl (fun k => k + 1) [0, 1, 2, 3, 4, 5, 6] rfl rfl rfl rfl ⟨rfl, rfl, by decide, by decide⟩ [] rfl (Nat.le_of_ble_eq_true rfl) [.int r] rfl (WD ik fx fy (nI T) fo tu f (nI P) pf az af (nI L) lf (nI O) o szK foK tuK fK pzK pfK azK afK lzK lfK ozK oK (nI n) tp tl tb yz yo yt yf xz xf cz cm cl dz dfo dtu df tr ch (ln 0) (sn 0) (it 0) (ln 1) (sn 1) (it 1) (ln 2) (sn 2) (it 2) (ln 3) (sn 3) (it 3) m_fans (nI T) (nI P) (nI N) (nI L) (nI O) (nI n) m_at m_wrong im fan g xs ys laws arms talk stX stY tolds tb m_read m_readArms m_some m_few m_laid img lanes sizes items m_moved) rfl ?_
  refine Gl.run X qL_19 12 1 (1020, lvL (nI I), [.ref 50, .int r], (WD ik fx fy (nI T) fo tu f (nI P) pf az af (nI L) lf (nI O) o szK foK tuK fK pzK pfK azK afK lzK lfK ozK oK (nI n) tp tl tb yz yo yt yf xz xf cz cm cl dz dfo dtu df tr ch (ln 0) (sn 0) (it 0) (ln 1) (sn 1) (it 1) (ln 2) (sn 2) (it 2) (ln 3) (sn 3) (it 3) m_fans (nI T) (nI P) (nI N) (nI L) (nI O) (nI n) m_at m_wrong im fan g xs ys laws arms talk stX stY tolds tb m_read m_readArms m_some m_few m_laid img lanes sizes items m_moved)) rfl ?_
  refine Gl.arg X h7 1 (by decide) qL_19 13 (z := 1) (by decide) rfl ?_
  refine Gl.arg X h7 2 (by decide) qL_19 18 (z := 2) (by decide) rfl ?_
  refine Gl.call X qL_19 23 rfl (c_X9_ground m_fans (nI T) (nI P) (nI N) (nI L) (nI O) (nI n) m_at m_wrong im fan g laws (sc (I + 1)) (sc (I + 2)) r h2) kL_101 0 rfl rfl (fun k => k + 50) [49, 50, 51, 54] rfl rfl rfl rfl ⟨rfl, rfl, by decide, by decide⟩ [.int r] rfl (Nat.le_of_ble_eq_true rfl) [.int r, .int r] rfl (WD ik fx fy (nI T) fo tu f (nI P) pf az af (nI L) lf (nI O) o szK foK tuK fK pzK pfK azK afK lzK lfK ozK oK (nI n) tp tl tb yz yo yt yf xz xf cz cm cl dz dfo dtu df tr ch (ln 0) (sn 0) (it 0) (ln 1) (sn 1) (it 1) (ln 2) (sn 2) (it 2) (ln 3) (sn 3) (it 3) m_fans (nI T) (nI P) (nI N) (nI L) (nI O) (nI n) m_at m_wrong im fan g xs ys laws arms talk stX stY tolds tb m_read m_readArms m_some m_few m_laid img lanes sizes items m_moved) rfl ?_
  refine Gl.same X qL_19 24 567 rfl rfl ?_
  exact kk _ (fun Z k => k T P N L O n a fo tu az ik im f pf af lf o g xs ys laws arms talk stX stY tolds szK foK tuK fK pzK pfK azK afK lzK lfK ozK oK img tb fx fy fan ln sn it lanes sizes items tp tl yz yo yt yf xz xf cz cm cl dz dfo dtu df tr ch m_fans m_at m_wrong m_read m_readArms m_some m_few m_laid m_moved hG hI hB hF hK)
set_option maxRecDepth 100000 in
set_option maxHeartbeats 4000000 in
theorem law_20 {p : Program} {l : Launch} {e : Env} {s : State} {m : MethodId} {args : Array Value} {below : List Frame} {meth : Method} {c : Code} {D : va_G} {ad : Nat → Nat} {cA : Nat → ClassId} {A : Nat → Prop} {H0 : Heap} {Qf : State → Prop} {cl9 sl9 Ln : Nat} {sc : Nat → Int32} {w : gW} (X : Gx p s m args meth c ad A H0 cl9 sl9 Ln sc) {I : Nat} (h7 : I + 7 ≤ Ln) (h : LI w) (kk : ∀ w, LI w → Gl p l e s m args below meth c D ad cA A H0 Qf cl9 sl9 (1600, lvL (nI I), [], w)) : Gl p l e s m args below meth c D ad cA A H0 Qf cl9 sl9 (1038, lvL (nI I), [], w) := by
  refine h (fun w => Gl p l e s m args below meth c D ad cA A H0 Qf cl9 sl9 (1038, lvL (nI I), [], w)) ?_
  clear h
  intro T P N L O n a fo tu az ik im f pf af lf o g xs ys laws arms talk stX stY tolds szK foK tuK fK pzK pfK azK afK lzK lfK ozK oK img tb fx fy fan ln sn it lanes sizes items tp tl yz yo yt yf xz xf cz cm cl dz dfo dtu df tr ch m_fans m_at m_wrong m_read m_readArms m_some m_few m_laid m_moved hG hI hB hF hK
  have hS := hG.1
  have hT := hG.2.1
  have hL := hG.2.2.1
  have hO := hG.2.2.2
  refine Gl.run X qL_20 0 1 (1039, lvL (nI I), [.ref 1], (WD ik fx fy (nI T) fo tu f (nI P) pf az af (nI L) lf (nI O) o szK foK tuK fK pzK pfK azK afK lzK lfK ozK oK (nI n) tp tl tb yz yo yt yf xz xf cz cm cl dz dfo dtu df tr ch (ln 0) (sn 0) (it 0) (ln 1) (sn 1) (it 1) (ln 2) (sn 2) (it 2) (ln 3) (sn 3) (it 3) m_fans (nI T) (nI P) (nI N) (nI L) (nI O) (nI n) m_at m_wrong im fan g xs ys laws arms talk stX stY tolds tb m_read m_readArms m_some m_few m_laid img lanes sizes items m_moved)) rfl ?_
  refine Gl.arg X h7 1 (by decide) qL_20 1 (z := 1) (by decide) rfl ?_
  refine Gl.arg X h7 2 (by decide) qL_20 6 (z := 2) (by decide) rfl ?_
  refine Gl.arg X h7 3 (by decide) qL_20 11 (z := 3) (by decide) rfl ?_
  obtain ⟨r, cz', cm', cl', sm', fw', h1, h2⟩ := eq_fewest hS hF cz cm cl m_some m_few (sc (I + 1)) (sc (I + 2)) (sc (I + 3))
  refine Gl.call X qL_20 16 rfl (c_X8_fewest ik fx fy (nI T) fo tu f cz cm cl (sc (I + 1)) (sc (I + 2)) (sc (I + 3)) (r, cz', cm', cl') h1) kL_102 0 rfl rfl (fun k => k + 1) [0, 1, 2, 3, 4, 5, 6, 32, 33, 34] rfl rfl rfl rfl ⟨rfl, rfl, by decide, by decide⟩ [] rfl (Nat.le_of_ble_eq_true rfl) [.int r] rfl (WD ik fx fy (nI T) fo tu f (nI P) pf az af (nI L) lf (nI O) o szK foK tuK fK pzK pfK azK afK lzK lfK ozK oK (nI n) tp tl tb yz yo yt yf xz xf cz' cm' cl' dz dfo dtu df tr ch (ln 0) (sn 0) (it 0) (ln 1) (sn 1) (it 1) (ln 2) (sn 2) (it 2) (ln 3) (sn 3) (it 3) m_fans (nI T) (nI P) (nI N) (nI L) (nI O) (nI n) m_at m_wrong im fan g xs ys laws arms talk stX stY tolds tb m_read m_readArms m_some m_few m_laid img lanes sizes items m_moved) rfl ?_
  refine Gl.run X qL_20 17 1 (1058, lvL (nI I), [.ref 50, .int r], (WD ik fx fy (nI T) fo tu f (nI P) pf az af (nI L) lf (nI O) o szK foK tuK fK pzK pfK azK afK lzK lfK ozK oK (nI n) tp tl tb yz yo yt yf xz xf cz' cm' cl' dz dfo dtu df tr ch (ln 0) (sn 0) (it 0) (ln 1) (sn 1) (it 1) (ln 2) (sn 2) (it 2) (ln 3) (sn 3) (it 3) m_fans (nI T) (nI P) (nI N) (nI L) (nI O) (nI n) m_at m_wrong im fan g xs ys laws arms talk stX stY tolds tb m_read m_readArms m_some m_few m_laid img lanes sizes items m_moved)) rfl ?_
  refine Gl.arg X h7 1 (by decide) qL_20 18 (z := 1) (by decide) rfl ?_
  refine Gl.arg X h7 2 (by decide) qL_20 23 (z := 2) (by decide) rfl ?_
  refine Gl.arg X h7 3 (by decide) qL_20 28 (z := 3) (by decide) rfl ?_
  refine Gl.call X qL_20 33 rfl (c_X9_fewest m_fans (nI T) (nI P) (nI N) (nI L) (nI O) (nI n) m_at m_wrong im fan g laws m_some m_few (sc (I + 1)) (sc (I + 2)) (sc (I + 3)) (r, sm', fw') h2) kL_105 0 rfl rfl (fun k => k + 50) [49, 50, 51, 54, 63, 64] rfl rfl rfl rfl ⟨rfl, rfl, by decide, by decide⟩ [.int r] rfl (Nat.le_of_ble_eq_true rfl) [.int r, .int r] rfl (WD ik fx fy (nI T) fo tu f (nI P) pf az af (nI L) lf (nI O) o szK foK tuK fK pzK pfK azK afK lzK lfK ozK oK (nI n) tp tl tb yz yo yt yf xz xf cz' cm' cl' dz dfo dtu df tr ch (ln 0) (sn 0) (it 0) (ln 1) (sn 1) (it 1) (ln 2) (sn 2) (it 2) (ln 3) (sn 3) (it 3) m_fans (nI T) (nI P) (nI N) (nI L) (nI O) (nI n) m_at m_wrong im fan g xs ys laws arms talk stX stY tolds tb m_read m_readArms sm' fw' m_laid img lanes sizes items m_moved) rfl ?_
  refine Gl.same X qL_20 34 524 rfl rfl ?_
  exact kk _ (fun Z k => k T P N L O n a fo tu az ik im f pf af lf o g xs ys laws arms talk stX stY tolds szK foK tuK fK pzK pfK azK afK lzK lfK ozK oK img tb fx fy fan ln sn it lanes sizes items tp tl yz yo yt yf xz xf cz' cm' cl' dz dfo dtu df tr ch m_fans m_at m_wrong m_read m_readArms sm' fw' m_laid m_moved hG hI hB hF hK)
set_option maxRecDepth 100000 in
set_option maxHeartbeats 4000000 in
theorem law_21 {p : Program} {l : Launch} {e : Env} {s : State} {m : MethodId} {args : Array Value} {below : List Frame} {meth : Method} {c : Code} {D : va_G} {ad : Nat → Nat} {cA : Nat → ClassId} {A : Nat → Prop} {H0 : Heap} {Qf : State → Prop} {cl9 sl9 Ln : Nat} {sc : Nat → Int32} {w : gW} (X : Gx p s m args meth c ad A H0 cl9 sl9 Ln sc) {I : Nat} (h7 : I + 7 ≤ Ln) (h : LI w) (kk : ∀ w, LI w → Gl p l e s m args below meth c D ad cA A H0 Qf cl9 sl9 (1600, lvL (nI I), [], w)) : Gl p l e s m args below meth c D ad cA A H0 Qf cl9 sl9 (1081, lvL (nI I), [], w) := by
  refine h (fun w => Gl p l e s m args below meth c D ad cA A H0 Qf cl9 sl9 (1081, lvL (nI I), [], w)) ?_
  clear h
  intro T P N L O n a fo tu az ik im f pf af lf o g xs ys laws arms talk stX stY tolds szK foK tuK fK pzK pfK azK afK lzK lfK ozK oK img tb fx fy fan ln sn it lanes sizes items tp tl yz yo yt yf xz xf cz cm cl dz dfo dtu df tr ch m_fans m_at m_wrong m_read m_readArms m_some m_few m_laid m_moved hG hI hB hF hK
  have hS := hG.1
  have hT := hG.2.1
  have hL := hG.2.2.1
  have hO := hG.2.2.2
  refine Gl.run X qL_21 0 1 (1082, lvL (nI I), [.ref 1], (WD ik fx fy (nI T) fo tu f (nI P) pf az af (nI L) lf (nI O) o szK foK tuK fK pzK pfK azK afK lzK lfK ozK oK (nI n) tp tl tb yz yo yt yf xz xf cz cm cl dz dfo dtu df tr ch (ln 0) (sn 0) (it 0) (ln 1) (sn 1) (it 1) (ln 2) (sn 2) (it 2) (ln 3) (sn 3) (it 3) m_fans (nI T) (nI P) (nI N) (nI L) (nI O) (nI n) m_at m_wrong im fan g xs ys laws arms talk stX stY tolds tb m_read m_readArms m_some m_few m_laid img lanes sizes items m_moved)) rfl ?_
  refine Gl.arg X h7 1 (by decide) qL_21 1 (z := 1) (by decide) rfl ?_
  refine Gl.arg X h7 2 (by decide) qL_21 6 (z := 2) (by decide) rfl ?_
  refine Gl.arg X h7 3 (by decide) qL_21 11 (z := 3) (by decide) rfl ?_
  refine Gl.arg X h7 4 (by decide) qL_21 16 (z := 4) (by decide) rfl ?_
  obtain ⟨r, cz', cm', cl', sm', fw', h1, h2⟩ := eq_aside hS hF cz cm cl m_some m_few (sc (I + 1)) (sc (I + 2)) (sc (I + 3)) (sc (I + 4))
  refine Gl.call X qL_21 21 rfl (c_X8_aside ik fx fy (nI T) fo tu f cz cm cl (sc (I + 1)) (sc (I + 2)) (sc (I + 3)) (sc (I + 4)) (r, cz', cm', cl') h1) kL_106 0 rfl rfl (fun k => k + 1) [0, 1, 2, 3, 4, 5, 6, 32, 33, 34] rfl rfl rfl rfl ⟨rfl, rfl, by decide, by decide⟩ [] rfl (Nat.le_of_ble_eq_true rfl) [.int r] rfl (WD ik fx fy (nI T) fo tu f (nI P) pf az af (nI L) lf (nI O) o szK foK tuK fK pzK pfK azK afK lzK lfK ozK oK (nI n) tp tl tb yz yo yt yf xz xf cz' cm' cl' dz dfo dtu df tr ch (ln 0) (sn 0) (it 0) (ln 1) (sn 1) (it 1) (ln 2) (sn 2) (it 2) (ln 3) (sn 3) (it 3) m_fans (nI T) (nI P) (nI N) (nI L) (nI O) (nI n) m_at m_wrong im fan g xs ys laws arms talk stX stY tolds tb m_read m_readArms m_some m_few m_laid img lanes sizes items m_moved) rfl ?_
  refine Gl.run X qL_21 22 1 (1106, lvL (nI I), [.ref 50, .int r], (WD ik fx fy (nI T) fo tu f (nI P) pf az af (nI L) lf (nI O) o szK foK tuK fK pzK pfK azK afK lzK lfK ozK oK (nI n) tp tl tb yz yo yt yf xz xf cz' cm' cl' dz dfo dtu df tr ch (ln 0) (sn 0) (it 0) (ln 1) (sn 1) (it 1) (ln 2) (sn 2) (it 2) (ln 3) (sn 3) (it 3) m_fans (nI T) (nI P) (nI N) (nI L) (nI O) (nI n) m_at m_wrong im fan g xs ys laws arms talk stX stY tolds tb m_read m_readArms m_some m_few m_laid img lanes sizes items m_moved)) rfl ?_
  refine Gl.arg X h7 1 (by decide) qL_21 23 (z := 1) (by decide) rfl ?_
  refine Gl.arg X h7 2 (by decide) qL_21 28 (z := 2) (by decide) rfl ?_
  refine Gl.arg X h7 3 (by decide) qL_21 33 (z := 3) (by decide) rfl ?_
  refine Gl.arg X h7 4 (by decide) qL_21 38 (z := 4) (by decide) rfl ?_
  refine Gl.call X qL_21 43 rfl (c_X9_aside m_fans (nI T) (nI P) (nI N) (nI L) (nI O) (nI n) m_at m_wrong im fan g laws m_some m_few (sc (I + 1)) (sc (I + 2)) (sc (I + 3)) (sc (I + 4)) (r, sm', fw') h2) kL_109 0 rfl rfl (fun k => k + 50) [49, 50, 51, 54, 63, 64] rfl rfl rfl rfl ⟨rfl, rfl, by decide, by decide⟩ [.int r] rfl (Nat.le_of_ble_eq_true rfl) [.int r, .int r] rfl (WD ik fx fy (nI T) fo tu f (nI P) pf az af (nI L) lf (nI O) o szK foK tuK fK pzK pfK azK afK lzK lfK ozK oK (nI n) tp tl tb yz yo yt yf xz xf cz' cm' cl' dz dfo dtu df tr ch (ln 0) (sn 0) (it 0) (ln 1) (sn 1) (it 1) (ln 2) (sn 2) (it 2) (ln 3) (sn 3) (it 3) m_fans (nI T) (nI P) (nI N) (nI L) (nI O) (nI n) m_at m_wrong im fan g xs ys laws arms talk stX stY tolds tb m_read m_readArms sm' fw' m_laid img lanes sizes items m_moved) rfl ?_
  refine Gl.same X qL_21 44 471 rfl rfl ?_
  exact kk _ (fun Z k => k T P N L O n a fo tu az ik im f pf af lf o g xs ys laws arms talk stX stY tolds szK foK tuK fK pzK pfK azK afK lzK lfK ozK oK img tb fx fy fan ln sn it lanes sizes items tp tl yz yo yt yf xz xf cz' cm' cl' dz dfo dtu df tr ch m_fans m_at m_wrong m_read m_readArms sm' fw' m_laid m_moved hG hI hB hF hK)
set_option maxRecDepth 100000 in
set_option maxHeartbeats 4000000 in
theorem law_22 {p : Program} {l : Launch} {e : Env} {s : State} {m : MethodId} {args : Array Value} {below : List Frame} {meth : Method} {c : Code} {D : va_G} {ad : Nat → Nat} {cA : Nat → ClassId} {A : Nat → Prop} {H0 : Heap} {Qf : State → Prop} {cl9 sl9 Ln : Nat} {sc : Nat → Int32} {w : gW} (X : Gx p s m args meth c ad A H0 cl9 sl9 Ln sc) {I : Nat} (h7 : I + 7 ≤ Ln) (h : LI w) (kk : ∀ w, LI w → Gl p l e s m args below meth c D ad cA A H0 Qf cl9 sl9 (1600, lvL (nI I), [], w)) : Gl p l e s m args below meth c D ad cA A H0 Qf cl9 sl9 (1134, lvL (nI I), [], w) := by
  refine h (fun w => Gl p l e s m args below meth c D ad cA A H0 Qf cl9 sl9 (1134, lvL (nI I), [], w)) ?_
  clear h
  intro T P N L O n a fo tu az ik im f pf af lf o g xs ys laws arms talk stX stY tolds szK foK tuK fK pzK pfK azK afK lzK lfK ozK oK img tb fx fy fan ln sn it lanes sizes items tp tl yz yo yt yf xz xf cz cm cl dz dfo dtu df tr ch m_fans m_at m_wrong m_read m_readArms m_some m_few m_laid m_moved hG hI hB hF hK
  have hS := hG.1
  have hT := hG.2.1
  have hL := hG.2.2.1
  have hO := hG.2.2.2
  refine Gl.run X qL_22 0 1 (1135, lvL (nI I), [.ref 1], (WD ik fx fy (nI T) fo tu f (nI P) pf az af (nI L) lf (nI O) o szK foK tuK fK pzK pfK azK afK lzK lfK ozK oK (nI n) tp tl tb yz yo yt yf xz xf cz cm cl dz dfo dtu df tr ch (ln 0) (sn 0) (it 0) (ln 1) (sn 1) (it 1) (ln 2) (sn 2) (it 2) (ln 3) (sn 3) (it 3) m_fans (nI T) (nI P) (nI N) (nI L) (nI O) (nI n) m_at m_wrong im fan g xs ys laws arms talk stX stY tolds tb m_read m_readArms m_some m_few m_laid img lanes sizes items m_moved)) rfl ?_
  refine Gl.arg X h7 1 (by decide) qL_22 1 (z := 1) (by decide) rfl ?_
  refine Gl.arg X h7 2 (by decide) qL_22 6 (z := 2) (by decide) rfl ?_
  refine Gl.arg X h7 3 (by decide) qL_22 11 (z := 3) (by decide) rfl ?_
  obtain ⟨r, O', o', tolds', h1, h2, hO'⟩ := eq_meant hS.1 hO (sc (I + 1)) (sc (I + 2)) (sc (I + 3))
  refine Gl.call X qL_22 16 rfl (c_X8_meant ik (nI T) fo tu (nI O) o (sc (I + 1)) (sc (I + 2)) (sc (I + 3)) (r, (nI O'), o') h1) kL_110 0 rfl rfl (fun k => k + 1) [0, 4, 5, 13, 14] rfl rfl rfl rfl ⟨rfl, rfl, by decide, by decide⟩ [] rfl (Nat.le_of_ble_eq_true rfl) [.int r] rfl (WD ik fx fy (nI T) fo tu f (nI P) pf az af (nI L) lf (nI O') o' szK foK tuK fK pzK pfK azK afK lzK lfK ozK oK (nI n) tp tl tb yz yo yt yf xz xf cz cm cl dz dfo dtu df tr ch (ln 0) (sn 0) (it 0) (ln 1) (sn 1) (it 1) (ln 2) (sn 2) (it 2) (ln 3) (sn 3) (it 3) m_fans (nI T) (nI P) (nI N) (nI L) (nI O) (nI n) m_at m_wrong im fan g xs ys laws arms talk stX stY tolds tb m_read m_readArms m_some m_few m_laid img lanes sizes items m_moved) rfl ?_
  refine Gl.run X qL_22 17 1 (1154, lvL (nI I), [.ref 50, .int r], (WD ik fx fy (nI T) fo tu f (nI P) pf az af (nI L) lf (nI O') o' szK foK tuK fK pzK pfK azK afK lzK lfK ozK oK (nI n) tp tl tb yz yo yt yf xz xf cz cm cl dz dfo dtu df tr ch (ln 0) (sn 0) (it 0) (ln 1) (sn 1) (it 1) (ln 2) (sn 2) (it 2) (ln 3) (sn 3) (it 3) m_fans (nI T) (nI P) (nI N) (nI L) (nI O) (nI n) m_at m_wrong im fan g xs ys laws arms talk stX stY tolds tb m_read m_readArms m_some m_few m_laid img lanes sizes items m_moved)) rfl ?_
  refine Gl.arg X h7 1 (by decide) qL_22 18 (z := 1) (by decide) rfl ?_
  refine Gl.arg X h7 2 (by decide) qL_22 23 (z := 2) (by decide) rfl ?_
  refine Gl.arg X h7 3 (by decide) qL_22 28 (z := 3) (by decide) rfl ?_
  refine Gl.call X qL_22 33 rfl (c_X9_meant m_fans (nI T) (nI P) (nI N) (nI L) (nI O) (nI n) m_at m_wrong im tolds (sc (I + 1)) (sc (I + 2)) (sc (I + 3)) (r, (nI O'), tolds') h2) kL_113 0 rfl rfl (fun k => k + 50) [49, 59] rfl rfl rfl rfl ⟨rfl, rfl, by decide, by decide⟩ [.int r] rfl (Nat.le_of_ble_eq_true rfl) [.int r, .int r] rfl (WD ik fx fy (nI T) fo tu f (nI P) pf az af (nI L) lf (nI O') o' szK foK tuK fK pzK pfK azK afK lzK lfK ozK oK (nI n) tp tl tb yz yo yt yf xz xf cz cm cl dz dfo dtu df tr ch (ln 0) (sn 0) (it 0) (ln 1) (sn 1) (it 1) (ln 2) (sn 2) (it 2) (ln 3) (sn 3) (it 3) m_fans (nI T) (nI P) (nI N) (nI L) (nI O') (nI n) m_at m_wrong im fan g xs ys laws arms talk stX stY tolds' tb m_read m_readArms m_some m_few m_laid img lanes sizes items m_moved) rfl ?_
  refine Gl.same X qL_22 34 428 rfl rfl ?_
  exact kk _ (fun Z k => k T P N L O' n a fo tu az ik im f pf af lf o' g xs ys laws arms talk stX stY tolds' szK foK tuK fK pzK pfK azK afK lzK lfK ozK oK img tb fx fy fan ln sn it lanes sizes items tp tl yz yo yt yf xz xf cz cm cl dz dfo dtu df tr ch m_fans m_at m_wrong m_read m_readArms m_some m_few m_laid m_moved ⟨hS, hT, hL, hO'⟩ hI hB hF hK)
set_option maxRecDepth 100000 in
set_option maxHeartbeats 4000000 in
theorem law_23 {p : Program} {l : Launch} {e : Env} {s : State} {m : MethodId} {args : Array Value} {below : List Frame} {meth : Method} {c : Code} {D : va_G} {ad : Nat → Nat} {cA : Nat → ClassId} {A : Nat → Prop} {H0 : Heap} {Qf : State → Prop} {cl9 sl9 Ln : Nat} {sc : Nat → Int32} {w : gW} (X : Gx p s m args meth c ad A H0 cl9 sl9 Ln sc) {I : Nat} (h7 : I + 7 ≤ Ln) (h : LI w) (kk : ∀ w, LI w → Gl p l e s m args below meth c D ad cA A H0 Qf cl9 sl9 (1600, lvL (nI I), [], w)) : Gl p l e s m args below meth c D ad cA A H0 Qf cl9 sl9 (1177, lvL (nI I), [], w) := by
  refine h (fun w => Gl p l e s m args below meth c D ad cA A H0 Qf cl9 sl9 (1177, lvL (nI I), [], w)) ?_
  clear h
  intro T P N L O n a fo tu az ik im f pf af lf o g xs ys laws arms talk stX stY tolds szK foK tuK fK pzK pfK azK afK lzK lfK ozK oK img tb fx fy fan ln sn it lanes sizes items tp tl yz yo yt yf xz xf cz cm cl dz dfo dtu df tr ch m_fans m_at m_wrong m_read m_readArms m_some m_few m_laid m_moved hG hI hB hF hK
  have hS := hG.1
  have hT := hG.2.1
  have hL := hG.2.2.1
  have hO := hG.2.2.2
  refine Gl.run X qL_23 0 1 (1178, lvL (nI I), [.ref 1], (WD ik fx fy (nI T) fo tu f (nI P) pf az af (nI L) lf (nI O) o szK foK tuK fK pzK pfK azK afK lzK lfK ozK oK (nI n) tp tl tb yz yo yt yf xz xf cz cm cl dz dfo dtu df tr ch (ln 0) (sn 0) (it 0) (ln 1) (sn 1) (it 1) (ln 2) (sn 2) (it 2) (ln 3) (sn 3) (it 3) m_fans (nI T) (nI P) (nI N) (nI L) (nI O) (nI n) m_at m_wrong im fan g xs ys laws arms talk stX stY tolds tb m_read m_readArms m_some m_few m_laid img lanes sizes items m_moved)) rfl ?_
  refine Gl.arg X h7 1 (by decide) qL_23 1 (z := 1) (by decide) rfl ?_
  obtain ⟨r, h1, h2⟩ := eq_stood hS hO (sc (I + 1))
  refine Gl.call X qL_23 6 rfl (c_X8_stood ik (nI T) fo tu f (nI O) o (sc (I + 1)) r h1) kL_114 0 rfl rfl (fun k => k + 1) [0, 4, 5, 6, 13, 14] rfl rfl rfl rfl ⟨rfl, rfl, by decide, by decide⟩ [] rfl (Nat.le_of_ble_eq_true rfl) [.int r] rfl (WD ik fx fy (nI T) fo tu f (nI P) pf az af (nI L) lf (nI O) o szK foK tuK fK pzK pfK azK afK lzK lfK ozK oK (nI n) tp tl tb yz yo yt yf xz xf cz cm cl dz dfo dtu df tr ch (ln 0) (sn 0) (it 0) (ln 1) (sn 1) (it 1) (ln 2) (sn 2) (it 2) (ln 3) (sn 3) (it 3) m_fans (nI T) (nI P) (nI N) (nI L) (nI O) (nI n) m_at m_wrong im fan g xs ys laws arms talk stX stY tolds tb m_read m_readArms m_some m_few m_laid img lanes sizes items m_moved) rfl ?_
  refine Gl.run X qL_23 7 1 (1187, lvL (nI I), [.ref 50, .int r], (WD ik fx fy (nI T) fo tu f (nI P) pf az af (nI L) lf (nI O) o szK foK tuK fK pzK pfK azK afK lzK lfK ozK oK (nI n) tp tl tb yz yo yt yf xz xf cz cm cl dz dfo dtu df tr ch (ln 0) (sn 0) (it 0) (ln 1) (sn 1) (it 1) (ln 2) (sn 2) (it 2) (ln 3) (sn 3) (it 3) m_fans (nI T) (nI P) (nI N) (nI L) (nI O) (nI n) m_at m_wrong im fan g xs ys laws arms talk stX stY tolds tb m_read m_readArms m_some m_few m_laid img lanes sizes items m_moved)) rfl ?_
  refine Gl.arg X h7 1 (by decide) qL_23 8 (z := 1) (by decide) rfl ?_
  refine Gl.call X qL_23 13 rfl (c_X9_stood m_fans (nI T) (nI P) (nI N) (nI L) (nI O) (nI n) m_at m_wrong im g laws tolds (sc (I + 1)) r h2) kL_117 0 rfl rfl (fun k => k + 50) [49, 51, 54, 59] rfl rfl rfl rfl ⟨rfl, rfl, by decide, by decide⟩ [.int r] rfl (Nat.le_of_ble_eq_true rfl) [.int r, .int r] rfl (WD ik fx fy (nI T) fo tu f (nI P) pf az af (nI L) lf (nI O) o szK foK tuK fK pzK pfK azK afK lzK lfK ozK oK (nI n) tp tl tb yz yo yt yf xz xf cz cm cl dz dfo dtu df tr ch (ln 0) (sn 0) (it 0) (ln 1) (sn 1) (it 1) (ln 2) (sn 2) (it 2) (ln 3) (sn 3) (it 3) m_fans (nI T) (nI P) (nI N) (nI L) (nI O) (nI n) m_at m_wrong im fan g xs ys laws arms talk stX stY tolds tb m_read m_readArms m_some m_few m_laid img lanes sizes items m_moved) rfl ?_
  refine Gl.same X qL_23 14 405 rfl rfl ?_
  exact kk _ (fun Z k => k T P N L O n a fo tu az ik im f pf af lf o g xs ys laws arms talk stX stY tolds szK foK tuK fK pzK pfK azK afK lzK lfK ozK oK img tb fx fy fan ln sn it lanes sizes items tp tl yz yo yt yf xz xf cz cm cl dz dfo dtu df tr ch m_fans m_at m_wrong m_read m_readArms m_some m_few m_laid m_moved hG hI hB hF hK)
set_option maxRecDepth 100000 in
set_option maxHeartbeats 4000000 in
theorem law_24 {p : Program} {l : Launch} {e : Env} {s : State} {m : MethodId} {args : Array Value} {below : List Frame} {meth : Method} {c : Code} {D : va_G} {ad : Nat → Nat} {cA : Nat → ClassId} {A : Nat → Prop} {H0 : Heap} {Qf : State → Prop} {cl9 sl9 Ln : Nat} {sc : Nat → Int32} {w : gW} (X : Gx p s m args meth c ad A H0 cl9 sl9 Ln sc) {I : Nat} (h7 : I + 7 ≤ Ln) (h : LI w) (kk : ∀ w, LI w → Gl p l e s m args below meth c D ad cA A H0 Qf cl9 sl9 (1600, lvL (nI I), [], w)) : Gl p l e s m args below meth c D ad cA A H0 Qf cl9 sl9 (1200, lvL (nI I), [], w) := by
  refine h (fun w => Gl p l e s m args below meth c D ad cA A H0 Qf cl9 sl9 (1200, lvL (nI I), [], w)) ?_
  clear h
  intro T P N L O n a fo tu az ik im f pf af lf o g xs ys laws arms talk stX stY tolds szK foK tuK fK pzK pfK azK afK lzK lfK ozK oK img tb fx fy fan ln sn it lanes sizes items tp tl yz yo yt yf xz xf cz cm cl dz dfo dtu df tr ch m_fans m_at m_wrong m_read m_readArms m_some m_few m_laid m_moved hG hI hB hF hK
  have hS := hG.1
  have hT := hG.2.1
  have hL := hG.2.2.1
  have hO := hG.2.2.2
  refine Gl.run X qL_24 0 1 (1201, lvL (nI I), [.ref 1], (WD ik fx fy (nI T) fo tu f (nI P) pf az af (nI L) lf (nI O) o szK foK tuK fK pzK pfK azK afK lzK lfK ozK oK (nI n) tp tl tb yz yo yt yf xz xf cz cm cl dz dfo dtu df tr ch (ln 0) (sn 0) (it 0) (ln 1) (sn 1) (it 1) (ln 2) (sn 2) (it 2) (ln 3) (sn 3) (it 3) m_fans (nI T) (nI P) (nI N) (nI L) (nI O) (nI n) m_at m_wrong im fan g xs ys laws arms talk stX stY tolds tb m_read m_readArms m_some m_few m_laid img lanes sizes items m_moved)) rfl ?_
  refine Gl.arg X h7 1 (by decide) qL_24 1 (z := 1) (by decide) rfl ?_
  refine Gl.arg X h7 2 (by decide) qL_24 6 (z := 2) (by decide) rfl ?_
  obtain ⟨r, L', lf', stX', stY', h1, h2, hL'⟩ := eq_stall hL (sc (I + 1)) (sc (I + 2))
  refine Gl.call X qL_24 11 rfl (c_X8_stall ik (nI L) lf (sc (I + 1)) (sc (I + 2)) (r, (nI L'), lf') h1) kL_118 0 rfl rfl (fun k => k + 1) [0, 4, 11, 12] rfl rfl rfl rfl ⟨rfl, rfl, by decide, by decide⟩ [] rfl (Nat.le_of_ble_eq_true rfl) [.int r] rfl (WD ik fx fy (nI T) fo tu f (nI P) pf az af (nI L') lf' (nI O) o szK foK tuK fK pzK pfK azK afK lzK lfK ozK oK (nI n) tp tl tb yz yo yt yf xz xf cz cm cl dz dfo dtu df tr ch (ln 0) (sn 0) (it 0) (ln 1) (sn 1) (it 1) (ln 2) (sn 2) (it 2) (ln 3) (sn 3) (it 3) m_fans (nI T) (nI P) (nI N) (nI L) (nI O) (nI n) m_at m_wrong im fan g xs ys laws arms talk stX stY tolds tb m_read m_readArms m_some m_few m_laid img lanes sizes items m_moved) rfl ?_
  refine Gl.run X qL_24 12 1 (1215, lvL (nI I), [.ref 50, .int r], (WD ik fx fy (nI T) fo tu f (nI P) pf az af (nI L') lf' (nI O) o szK foK tuK fK pzK pfK azK afK lzK lfK ozK oK (nI n) tp tl tb yz yo yt yf xz xf cz cm cl dz dfo dtu df tr ch (ln 0) (sn 0) (it 0) (ln 1) (sn 1) (it 1) (ln 2) (sn 2) (it 2) (ln 3) (sn 3) (it 3) m_fans (nI T) (nI P) (nI N) (nI L) (nI O) (nI n) m_at m_wrong im fan g xs ys laws arms talk stX stY tolds tb m_read m_readArms m_some m_few m_laid img lanes sizes items m_moved)) rfl ?_
  refine Gl.arg X h7 1 (by decide) qL_24 13 (z := 1) (by decide) rfl ?_
  refine Gl.arg X h7 2 (by decide) qL_24 18 (z := 2) (by decide) rfl ?_
  refine Gl.call X qL_24 23 rfl (c_X9_stall m_fans (nI T) (nI P) (nI N) (nI L) (nI O) (nI n) m_at m_wrong im stX stY (sc (I + 1)) (sc (I + 2)) (r, (nI L'), stX', stY') h2) kL_121 0 rfl rfl (fun k => k + 50) [49, 57, 58] rfl rfl rfl rfl ⟨rfl, rfl, by decide, by decide⟩ [.int r] rfl (Nat.le_of_ble_eq_true rfl) [.int r, .int r] rfl (WD ik fx fy (nI T) fo tu f (nI P) pf az af (nI L') lf' (nI O) o szK foK tuK fK pzK pfK azK afK lzK lfK ozK oK (nI n) tp tl tb yz yo yt yf xz xf cz cm cl dz dfo dtu df tr ch (ln 0) (sn 0) (it 0) (ln 1) (sn 1) (it 1) (ln 2) (sn 2) (it 2) (ln 3) (sn 3) (it 3) m_fans (nI T) (nI P) (nI N) (nI L') (nI O) (nI n) m_at m_wrong im fan g xs ys laws arms talk stX' stY' tolds tb m_read m_readArms m_some m_few m_laid img lanes sizes items m_moved) rfl ?_
  refine Gl.same X qL_24 24 372 rfl rfl ?_
  exact kk _ (fun Z k => k T P N L' O n a fo tu az ik im f pf af lf' o g xs ys laws arms talk stX' stY' tolds szK foK tuK fK pzK pfK azK afK lzK lfK ozK oK img tb fx fy fan ln sn it lanes sizes items tp tl yz yo yt yf xz xf cz cm cl dz dfo dtu df tr ch m_fans m_at m_wrong m_read m_readArms m_some m_few m_laid m_moved ⟨hS, hT, hL', hO⟩ hI hB hF hK)
set_option maxRecDepth 100000 in
set_option maxHeartbeats 4000000 in
theorem law_25 {p : Program} {l : Launch} {e : Env} {s : State} {m : MethodId} {args : Array Value} {below : List Frame} {meth : Method} {c : Code} {D : va_G} {ad : Nat → Nat} {cA : Nat → ClassId} {A : Nat → Prop} {H0 : Heap} {Qf : State → Prop} {cl9 sl9 Ln : Nat} {sc : Nat → Int32} {w : gW} (X : Gx p s m args meth c ad A H0 cl9 sl9 Ln sc) {I : Nat} (h7 : I + 7 ≤ Ln) (h : LI w) (kk : ∀ w, LI w → Gl p l e s m args below meth c D ad cA A H0 Qf cl9 sl9 (1600, lvL (nI I), [], w)) : Gl p l e s m args below meth c D ad cA A H0 Qf cl9 sl9 (1233, lvL (nI I), [], w) := by
  refine h (fun w => Gl p l e s m args below meth c D ad cA A H0 Qf cl9 sl9 (1233, lvL (nI I), [], w)) ?_
  clear h
  intro T P N L O n a fo tu az ik im f pf af lf o g xs ys laws arms talk stX stY tolds szK foK tuK fK pzK pfK azK afK lzK lfK ozK oK img tb fx fy fan ln sn it lanes sizes items tp tl yz yo yt yf xz xf cz cm cl dz dfo dtu df tr ch m_fans m_at m_wrong m_read m_readArms m_some m_few m_laid m_moved hG hI hB hF hK
  have hS := hG.1
  have hT := hG.2.1
  have hL := hG.2.2.1
  have hO := hG.2.2.2
  refine Gl.run X qL_25 0 1 (1234, lvL (nI I), [.ref 1], (WD ik fx fy (nI T) fo tu f (nI P) pf az af (nI L) lf (nI O) o szK foK tuK fK pzK pfK azK afK lzK lfK ozK oK (nI n) tp tl tb yz yo yt yf xz xf cz cm cl dz dfo dtu df tr ch (ln 0) (sn 0) (it 0) (ln 1) (sn 1) (it 1) (ln 2) (sn 2) (it 2) (ln 3) (sn 3) (it 3) m_fans (nI T) (nI P) (nI N) (nI L) (nI O) (nI n) m_at m_wrong im fan g xs ys laws arms talk stX stY tolds tb m_read m_readArms m_some m_few m_laid img lanes sizes items m_moved)) rfl ?_
  refine Gl.arg X h7 1 (by decide) qL_25 1 (z := 1) (by decide) rfl ?_
  refine Gl.arg X h7 2 (by decide) qL_25 6 (z := 2) (by decide) rfl ?_
  refine Gl.arg X h7 3 (by decide) qL_25 11 (z := 3) (by decide) rfl ?_
  refine Gl.arg X h7 4 (by decide) qL_25 16 (z := 4) (by decide) rfl ?_
  obtain ⟨r, dz', dfo', dtu', df', tr', ch', laid', h1, h2⟩ := eq_market hS hF hL dz dfo dtu df tr ch m_laid (sc (I + 1)) (sc (I + 2)) (sc (I + 3)) (sc (I + 4))
  refine Gl.call X qL_25 21 rfl (c_X8_market ik fx fy (nI T) fo tu f (nI L) lf dz dfo dtu df tr ch (sc (I + 1)) (sc (I + 2)) (sc (I + 3)) (sc (I + 4)) (r, dz', dfo', dtu', df', tr', ch') h1) kL_122 0 rfl rfl (fun k => k + 1) [0, 1, 2, 3, 4, 5, 6, 11, 12, 35, 36, 37, 38, 39] rfl rfl rfl rfl ⟨rfl, rfl, by decide, by decide⟩ [] rfl (Nat.le_of_ble_eq_true rfl) [.int r] rfl (WD ik fx fy (nI T) fo tu f (nI P) pf az af (nI L) lf (nI O) o szK foK tuK fK pzK pfK azK afK lzK lfK ozK oK (nI n) tp tl tb yz yo yt yf xz xf cz cm cl dz' dfo' dtu' df' tr' ch' (ln 0) (sn 0) (it 0) (ln 1) (sn 1) (it 1) (ln 2) (sn 2) (it 2) (ln 3) (sn 3) (it 3) m_fans (nI T) (nI P) (nI N) (nI L) (nI O) (nI n) m_at m_wrong im fan g xs ys laws arms talk stX stY tolds tb m_read m_readArms m_some m_few m_laid img lanes sizes items m_moved) rfl ?_
  refine Gl.run X qL_25 22 1 (1258, lvL (nI I), [.ref 50, .int r], (WD ik fx fy (nI T) fo tu f (nI P) pf az af (nI L) lf (nI O) o szK foK tuK fK pzK pfK azK afK lzK lfK ozK oK (nI n) tp tl tb yz yo yt yf xz xf cz cm cl dz' dfo' dtu' df' tr' ch' (ln 0) (sn 0) (it 0) (ln 1) (sn 1) (it 1) (ln 2) (sn 2) (it 2) (ln 3) (sn 3) (it 3) m_fans (nI T) (nI P) (nI N) (nI L) (nI O) (nI n) m_at m_wrong im fan g xs ys laws arms talk stX stY tolds tb m_read m_readArms m_some m_few m_laid img lanes sizes items m_moved)) rfl ?_
  refine Gl.arg X h7 1 (by decide) qL_25 23 (z := 1) (by decide) rfl ?_
  refine Gl.arg X h7 2 (by decide) qL_25 28 (z := 2) (by decide) rfl ?_
  refine Gl.arg X h7 3 (by decide) qL_25 33 (z := 3) (by decide) rfl ?_
  refine Gl.arg X h7 4 (by decide) qL_25 38 (z := 4) (by decide) rfl ?_
  refine Gl.call X qL_25 43 rfl (c_X9_market m_fans (nI T) (nI P) (nI N) (nI L) (nI O) (nI n) m_at m_wrong im fan g laws stX stY m_laid (sc (I + 1)) (sc (I + 2)) (sc (I + 3)) (sc (I + 4)) (r, laid') h2) kL_125 0 rfl rfl (fun k => k + 50) [49, 50, 51, 54, 57, 58, 65] rfl rfl rfl rfl ⟨rfl, rfl, by decide, by decide⟩ [.int r] rfl (Nat.le_of_ble_eq_true rfl) [.int r, .int r] rfl (WD ik fx fy (nI T) fo tu f (nI P) pf az af (nI L) lf (nI O) o szK foK tuK fK pzK pfK azK afK lzK lfK ozK oK (nI n) tp tl tb yz yo yt yf xz xf cz cm cl dz' dfo' dtu' df' tr' ch' (ln 0) (sn 0) (it 0) (ln 1) (sn 1) (it 1) (ln 2) (sn 2) (it 2) (ln 3) (sn 3) (it 3) m_fans (nI T) (nI P) (nI N) (nI L) (nI O) (nI n) m_at m_wrong im fan g xs ys laws arms talk stX stY tolds tb m_read m_readArms m_some m_few laid' img lanes sizes items m_moved) rfl ?_
  refine Gl.same X qL_25 44 319 rfl rfl ?_
  exact kk _ (fun Z k => k T P N L O n a fo tu az ik im f pf af lf o g xs ys laws arms talk stX stY tolds szK foK tuK fK pzK pfK azK afK lzK lfK ozK oK img tb fx fy fan ln sn it lanes sizes items tp tl yz yo yt yf xz xf cz cm cl dz' dfo' dtu' df' tr' ch' m_fans m_at m_wrong m_read m_readArms m_some m_few laid' m_moved hG hI hB hF hK)
