/-! Written by wip/gen/law.py: the law's cases. -/
set_option maxRecDepth 100000 in
set_option maxHeartbeats 4000000 in
theorem law_9 {p : Program} {l : Launch} {e : Env} {s : State} {m : MethodId} {args : Array Value} {below : List Frame} {meth : Method} {c : Code} {D : va_G} {ad : Nat → Nat} {cA : Nat → ClassId} {A : Nat → Prop} {H0 : Heap} {Qf : State → Prop} {cl9 sl9 Ln : Nat} {sc : Nat → Int32} {w : gW} (X : Gx p s m args meth c ad A H0 cl9 sl9 Ln sc) {I : Nat} (h7 : I + 7 ≤ Ln) (h : LI w) (kk : ∀ w, LI w → Gl p l e s m args below meth c D ad cA A H0 Qf cl9 sl9 (1600, lvL (nI I), [], w)) : Gl p l e s m args below meth c D ad cA A H0 Qf cl9 sl9 (511, lvL (nI I), [], w) := by
  refine h (fun w => Gl p l e s m args below meth c D ad cA A H0 Qf cl9 sl9 (511, lvL (nI I), [], w)) ?_
  clear h
  intro T P N L O n a fo tu az ik im f pf af lf o g xs ys laws arms talk stX stY tolds szK foK tuK fK pzK pfK azK afK lzK lfK ozK oK img tb fx fy fan ln sn it lanes sizes items tp tl yz yo yt yf xz xf cz cm cl dz dfo dtu df tr ch m_fans m_at m_wrong m_read m_readArms m_some m_few m_laid m_moved hG hI hB hF hK
  have hS := hG.1
  have hT := hG.2.1
  have hL := hG.2.2.1
  have hO := hG.2.2.2
  refine Gl.run X qL_9 0 1 (512, lvL (nI I), [.ref 1], (WD ik fx fy (nI T) fo tu f (nI P) pf az af (nI L) lf (nI O) o szK foK tuK fK pzK pfK azK afK lzK lfK ozK oK (nI n) tp tl tb yz yo yt yf xz xf cz cm cl dz dfo dtu df tr ch (ln 0) (sn 0) (it 0) (ln 1) (sn 1) (it 1) (ln 2) (sn 2) (it 2) (ln 3) (sn 3) (it 3) m_fans (nI T) (nI P) (nI N) (nI L) (nI O) (nI n) m_at m_wrong im fan g xs ys laws arms talk stX stY tolds tb m_read m_readArms m_some m_few m_laid img lanes sizes items m_moved)) rfl ?_
  refine Gl.arg X h7 1 (by decide) qL_9 1 (z := 1) (by decide) rfl ?_
  obtain ⟨r, h1, h2⟩ := eq_count hT (nI T) (nI P) (nI L) (nI O) (sc (I + 1))
  refine Gl.call X qL_9 6 rfl (c_X8_count ik (nI T) fo tu (nI P) az af (nI L) (nI O) (sc (I + 1)) r h1) kL_55 0 rfl rfl (fun k => k + 1) [0, 4, 5, 7, 9, 10, 11, 13] rfl rfl rfl rfl ⟨rfl, rfl, by decide, by decide⟩ [] rfl (Nat.le_of_ble_eq_true rfl) [.int r] rfl (WD ik fx fy (nI T) fo tu f (nI P) pf az af (nI L) lf (nI O) o szK foK tuK fK pzK pfK azK afK lzK lfK ozK oK (nI n) tp tl tb yz yo yt yf xz xf cz cm cl dz dfo dtu df tr ch (ln 0) (sn 0) (it 0) (ln 1) (sn 1) (it 1) (ln 2) (sn 2) (it 2) (ln 3) (sn 3) (it 3) m_fans (nI T) (nI P) (nI N) (nI L) (nI O) (nI n) m_at m_wrong im fan g xs ys laws arms talk stX stY tolds tb m_read m_readArms m_some m_few m_laid img lanes sizes items m_moved) rfl ?_
  refine Gl.run X qL_9 7 1 (521, lvL (nI I), [.ref 50, .int r], (WD ik fx fy (nI T) fo tu f (nI P) pf az af (nI L) lf (nI O) o szK foK tuK fK pzK pfK azK afK lzK lfK ozK oK (nI n) tp tl tb yz yo yt yf xz xf cz cm cl dz dfo dtu df tr ch (ln 0) (sn 0) (it 0) (ln 1) (sn 1) (it 1) (ln 2) (sn 2) (it 2) (ln 3) (sn 3) (it 3) m_fans (nI T) (nI P) (nI N) (nI L) (nI O) (nI n) m_at m_wrong im fan g xs ys laws arms talk stX stY tolds tb m_read m_readArms m_some m_few m_laid img lanes sizes items m_moved)) rfl ?_
  refine Gl.arg X h7 1 (by decide) qL_9 8 (z := 1) (by decide) rfl ?_
  refine Gl.call X qL_9 13 rfl (c_X9_count m_fans (nI T) (nI P) (nI N) (nI L) (nI O) (nI n) m_at m_wrong im arms (sc (I + 1)) r h2) kL_59 0 rfl rfl (fun k => k + 50) [49, 55] rfl rfl rfl rfl ⟨rfl, rfl, by decide, by decide⟩ [.int r] rfl (Nat.le_of_ble_eq_true rfl) [.int r, .int r] rfl (WD ik fx fy (nI T) fo tu f (nI P) pf az af (nI L) lf (nI O) o szK foK tuK fK pzK pfK azK afK lzK lfK ozK oK (nI n) tp tl tb yz yo yt yf xz xf cz cm cl dz dfo dtu df tr ch (ln 0) (sn 0) (it 0) (ln 1) (sn 1) (it 1) (ln 2) (sn 2) (it 2) (ln 3) (sn 3) (it 3) m_fans (nI T) (nI P) (nI N) (nI L) (nI O) (nI n) m_at m_wrong im fan g xs ys laws arms talk stX stY tolds tb m_read m_readArms m_some m_few m_laid img lanes sizes items m_moved) rfl ?_
  refine Gl.same X qL_9 14 1071 rfl rfl ?_
  exact kk _ (fun Z k => k T P N L O n a fo tu az ik im f pf af lf o g xs ys laws arms talk stX stY tolds szK foK tuK fK pzK pfK azK afK lzK lfK ozK oK img tb fx fy fan ln sn it lanes sizes items tp tl yz yo yt yf xz xf cz cm cl dz dfo dtu df tr ch m_fans m_at m_wrong m_read m_readArms m_some m_few m_laid m_moved hG hI hB hF hK)
set_option maxRecDepth 100000 in
set_option maxHeartbeats 4000000 in
theorem law_10 {p : Program} {l : Launch} {e : Env} {s : State} {m : MethodId} {args : Array Value} {below : List Frame} {meth : Method} {c : Code} {D : va_G} {ad : Nat → Nat} {cA : Nat → ClassId} {A : Nat → Prop} {H0 : Heap} {Qf : State → Prop} {cl9 sl9 Ln : Nat} {sc : Nat → Int32} {w : gW} (X : Gx p s m args meth c ad A H0 cl9 sl9 Ln sc) {I : Nat} (h7 : I + 7 ≤ Ln) (h : LI w) (kk : ∀ w, LI w → Gl p l e s m args below meth c D ad cA A H0 Qf cl9 sl9 (1600, lvL (nI I), [], w)) : Gl p l e s m args below meth c D ad cA A H0 Qf cl9 sl9 (534, lvL (nI I), [], w) := by
  refine h (fun w => Gl p l e s m args below meth c D ad cA A H0 Qf cl9 sl9 (534, lvL (nI I), [], w)) ?_
  clear h
  intro T P N L O n a fo tu az ik im f pf af lf o g xs ys laws arms talk stX stY tolds szK foK tuK fK pzK pfK azK afK lzK lfK ozK oK img tb fx fy fan ln sn it lanes sizes items tp tl yz yo yt yf xz xf cz cm cl dz dfo dtu df tr ch m_fans m_at m_wrong m_read m_readArms m_some m_few m_laid m_moved hG hI hB hF hK
  have hS := hG.1
  have hT := hG.2.1
  have hL := hG.2.2.1
  have hO := hG.2.2.2
  refine Gl.run X qL_10 0 1 (535, lvL (nI I), [.ref 1], (WD ik fx fy (nI T) fo tu f (nI P) pf az af (nI L) lf (nI O) o szK foK tuK fK pzK pfK azK afK lzK lfK ozK oK (nI n) tp tl tb yz yo yt yf xz xf cz cm cl dz dfo dtu df tr ch (ln 0) (sn 0) (it 0) (ln 1) (sn 1) (it 1) (ln 2) (sn 2) (it 2) (ln 3) (sn 3) (it 3) m_fans (nI T) (nI P) (nI N) (nI L) (nI O) (nI n) m_at m_wrong im fan g xs ys laws arms talk stX stY tolds tb m_read m_readArms m_some m_few m_laid img lanes sizes items m_moved)) rfl ?_
  refine Gl.arg X h7 1 (by decide) qL_10 1 (z := 1) (by decide) rfl ?_
  refine Gl.arg X h7 2 (by decide) qL_10 6 (z := 2) (by decide) rfl ?_
  refine Gl.arg X h7 3 (by decide) qL_10 11 (z := 3) (by decide) rfl ?_
  refine Gl.arg X h7 4 (by decide) qL_10 16 (z := 4) (by decide) rfl ?_
  obtain ⟨r, h1, h2⟩ := eq_meets hS (sc (I + 1)) (sc (I + 2)) (sc (I + 3)) (sc (I + 4))
  refine Gl.call X qL_10 21 rfl (c_X8_meets ik (nI T) fo tu f (sc (I + 1)) (sc (I + 2)) (sc (I + 3)) (sc (I + 4)) r h1) kL_60 0 rfl rfl (fun k => k + 1) [0, 4, 5, 6] rfl rfl rfl rfl ⟨rfl, rfl, by decide, by decide⟩ [] rfl (Nat.le_of_ble_eq_true rfl) [.int r] rfl (WD ik fx fy (nI T) fo tu f (nI P) pf az af (nI L) lf (nI O) o szK foK tuK fK pzK pfK azK afK lzK lfK ozK oK (nI n) tp tl tb yz yo yt yf xz xf cz cm cl dz dfo dtu df tr ch (ln 0) (sn 0) (it 0) (ln 1) (sn 1) (it 1) (ln 2) (sn 2) (it 2) (ln 3) (sn 3) (it 3) m_fans (nI T) (nI P) (nI N) (nI L) (nI O) (nI n) m_at m_wrong im fan g xs ys laws arms talk stX stY tolds tb m_read m_readArms m_some m_few m_laid img lanes sizes items m_moved) rfl ?_
  refine Gl.run X qL_10 22 1 (559, lvL (nI I), [.ref 50, .int r], (WD ik fx fy (nI T) fo tu f (nI P) pf az af (nI L) lf (nI O) o szK foK tuK fK pzK pfK azK afK lzK lfK ozK oK (nI n) tp tl tb yz yo yt yf xz xf cz cm cl dz dfo dtu df tr ch (ln 0) (sn 0) (it 0) (ln 1) (sn 1) (it 1) (ln 2) (sn 2) (it 2) (ln 3) (sn 3) (it 3) m_fans (nI T) (nI P) (nI N) (nI L) (nI O) (nI n) m_at m_wrong im fan g xs ys laws arms talk stX stY tolds tb m_read m_readArms m_some m_few m_laid img lanes sizes items m_moved)) rfl ?_
  refine Gl.arg X h7 1 (by decide) qL_10 23 (z := 1) (by decide) rfl ?_
  refine Gl.arg X h7 2 (by decide) qL_10 28 (z := 2) (by decide) rfl ?_
  refine Gl.arg X h7 3 (by decide) qL_10 33 (z := 3) (by decide) rfl ?_
  refine Gl.arg X h7 4 (by decide) qL_10 38 (z := 4) (by decide) rfl ?_
  refine Gl.call X qL_10 43 rfl (c_X9_meets m_fans (nI T) (nI P) (nI N) (nI L) (nI O) (nI n) m_at m_wrong im g laws (sc (I + 1)) (sc (I + 2)) (sc (I + 3)) (sc (I + 4)) r h2) kL_64 0 rfl rfl (fun k => k + 50) [49, 51, 54] rfl rfl rfl rfl ⟨rfl, rfl, by decide, by decide⟩ [.int r] rfl (Nat.le_of_ble_eq_true rfl) [.int r, .int r] rfl (WD ik fx fy (nI T) fo tu f (nI P) pf az af (nI L) lf (nI O) o szK foK tuK fK pzK pfK azK afK lzK lfK ozK oK (nI n) tp tl tb yz yo yt yf xz xf cz cm cl dz dfo dtu df tr ch (ln 0) (sn 0) (it 0) (ln 1) (sn 1) (it 1) (ln 2) (sn 2) (it 2) (ln 3) (sn 3) (it 3) m_fans (nI T) (nI P) (nI N) (nI L) (nI O) (nI n) m_at m_wrong im fan g xs ys laws arms talk stX stY tolds tb m_read m_readArms m_some m_few m_laid img lanes sizes items m_moved) rfl ?_
  refine Gl.same X qL_10 44 1018 rfl rfl ?_
  exact kk _ (fun Z k => k T P N L O n a fo tu az ik im f pf af lf o g xs ys laws arms talk stX stY tolds szK foK tuK fK pzK pfK azK afK lzK lfK ozK oK img tb fx fy fan ln sn it lanes sizes items tp tl yz yo yt yf xz xf cz cm cl dz dfo dtu df tr ch m_fans m_at m_wrong m_read m_readArms m_some m_few m_laid m_moved hG hI hB hF hK)
set_option maxRecDepth 100000 in
set_option maxHeartbeats 4000000 in
theorem law_11 {p : Program} {l : Launch} {e : Env} {s : State} {m : MethodId} {args : Array Value} {below : List Frame} {meth : Method} {c : Code} {D : va_G} {ad : Nat → Nat} {cA : Nat → ClassId} {A : Nat → Prop} {H0 : Heap} {Qf : State → Prop} {cl9 sl9 Ln : Nat} {sc : Nat → Int32} {w : gW} (X : Gx p s m args meth c ad A H0 cl9 sl9 Ln sc) {I : Nat} (h7 : I + 7 ≤ Ln) (h : LI w) (kk : ∀ w, LI w → Gl p l e s m args below meth c D ad cA A H0 Qf cl9 sl9 (1600, lvL (nI I), [], w)) : Gl p l e s m args below meth c D ad cA A H0 Qf cl9 sl9 (587, lvL (nI I), [], w) := by
  refine h (fun w => Gl p l e s m args below meth c D ad cA A H0 Qf cl9 sl9 (587, lvL (nI I), [], w)) ?_
  clear h
  intro T P N L O n a fo tu az ik im f pf af lf o g xs ys laws arms talk stX stY tolds szK foK tuK fK pzK pfK azK afK lzK lfK ozK oK img tb fx fy fan ln sn it lanes sizes items tp tl yz yo yt yf xz xf cz cm cl dz dfo dtu df tr ch m_fans m_at m_wrong m_read m_readArms m_some m_few m_laid m_moved hG hI hB hF hK
  have hS := hG.1
  have hT := hG.2.1
  have hL := hG.2.2.1
  have hO := hG.2.2.2
  refine Gl.run X qL_11 0 1 (588, lvL (nI I), [.ref 1], (WD ik fx fy (nI T) fo tu f (nI P) pf az af (nI L) lf (nI O) o szK foK tuK fK pzK pfK azK afK lzK lfK ozK oK (nI n) tp tl tb yz yo yt yf xz xf cz cm cl dz dfo dtu df tr ch (ln 0) (sn 0) (it 0) (ln 1) (sn 1) (it 1) (ln 2) (sn 2) (it 2) (ln 3) (sn 3) (it 3) m_fans (nI T) (nI P) (nI N) (nI L) (nI O) (nI n) m_at m_wrong im fan g xs ys laws arms talk stX stY tolds tb m_read m_readArms m_some m_few m_laid img lanes sizes items m_moved)) rfl ?_
  refine Gl.arg X h7 1 (by decide) qL_11 1 (z := 1) (by decide) rfl ?_
  refine Gl.arg X h7 2 (by decide) qL_11 6 (z := 2) (by decide) rfl ?_
  refine Gl.arg X h7 3 (by decide) qL_11 11 (z := 3) (by decide) rfl ?_
  refine Gl.arg X h7 4 (by decide) qL_11 16 (z := 4) (by decide) rfl ?_
  obtain ⟨r, h1, h2⟩ := eq_means hS (sc (I + 1)) (sc (I + 2)) (sc (I + 3)) (sc (I + 4))
  refine Gl.call X qL_11 21 rfl (c_X8_means ik (nI T) fo tu f (nI P) pf (sc (I + 1)) (sc (I + 2)) (sc (I + 3)) (sc (I + 4)) r h1) kL_65 0 rfl rfl (fun k => k + 1) [0, 4, 5, 6, 7, 8] rfl rfl rfl rfl ⟨rfl, rfl, by decide, by decide⟩ [] rfl (Nat.le_of_ble_eq_true rfl) [.int r] rfl (WD ik fx fy (nI T) fo tu f (nI P) pf az af (nI L) lf (nI O) o szK foK tuK fK pzK pfK azK afK lzK lfK ozK oK (nI n) tp tl tb yz yo yt yf xz xf cz cm cl dz dfo dtu df tr ch (ln 0) (sn 0) (it 0) (ln 1) (sn 1) (it 1) (ln 2) (sn 2) (it 2) (ln 3) (sn 3) (it 3) m_fans (nI T) (nI P) (nI N) (nI L) (nI O) (nI n) m_at m_wrong im fan g xs ys laws arms talk stX stY tolds tb m_read m_readArms m_some m_few m_laid img lanes sizes items m_moved) rfl ?_
  refine Gl.run X qL_11 22 1 (612, lvL (nI I), [.ref 50, .int r], (WD ik fx fy (nI T) fo tu f (nI P) pf az af (nI L) lf (nI O) o szK foK tuK fK pzK pfK azK afK lzK lfK ozK oK (nI n) tp tl tb yz yo yt yf xz xf cz cm cl dz dfo dtu df tr ch (ln 0) (sn 0) (it 0) (ln 1) (sn 1) (it 1) (ln 2) (sn 2) (it 2) (ln 3) (sn 3) (it 3) m_fans (nI T) (nI P) (nI N) (nI L) (nI O) (nI n) m_at m_wrong im fan g xs ys laws arms talk stX stY tolds tb m_read m_readArms m_some m_few m_laid img lanes sizes items m_moved)) rfl ?_
  refine Gl.arg X h7 1 (by decide) qL_11 23 (z := 1) (by decide) rfl ?_
  refine Gl.arg X h7 2 (by decide) qL_11 28 (z := 2) (by decide) rfl ?_
  refine Gl.arg X h7 3 (by decide) qL_11 33 (z := 3) (by decide) rfl ?_
  refine Gl.arg X h7 4 (by decide) qL_11 38 (z := 4) (by decide) rfl ?_
  refine Gl.call X qL_11 43 rfl (c_X9_means m_fans (nI T) (nI P) (nI N) (nI L) (nI O) (nI n) m_at m_wrong im g xs ys laws (sc (I + 1)) (sc (I + 2)) (sc (I + 3)) (sc (I + 4)) r h2) kL_68 0 rfl rfl (fun k => k + 50) [49, 51, 52, 53, 54] rfl rfl rfl rfl ⟨rfl, rfl, by decide, by decide⟩ [.int r] rfl (Nat.le_of_ble_eq_true rfl) [.int r, .int r] rfl (WD ik fx fy (nI T) fo tu f (nI P) pf az af (nI L) lf (nI O) o szK foK tuK fK pzK pfK azK afK lzK lfK ozK oK (nI n) tp tl tb yz yo yt yf xz xf cz cm cl dz dfo dtu df tr ch (ln 0) (sn 0) (it 0) (ln 1) (sn 1) (it 1) (ln 2) (sn 2) (it 2) (ln 3) (sn 3) (it 3) m_fans (nI T) (nI P) (nI N) (nI L) (nI O) (nI n) m_at m_wrong im fan g xs ys laws arms talk stX stY tolds tb m_read m_readArms m_some m_few m_laid img lanes sizes items m_moved) rfl ?_
  refine Gl.same X qL_11 44 965 rfl rfl ?_
  exact kk _ (fun Z k => k T P N L O n a fo tu az ik im f pf af lf o g xs ys laws arms talk stX stY tolds szK foK tuK fK pzK pfK azK afK lzK lfK ozK oK img tb fx fy fan ln sn it lanes sizes items tp tl yz yo yt yf xz xf cz cm cl dz dfo dtu df tr ch m_fans m_at m_wrong m_read m_readArms m_some m_few m_laid m_moved hG hI hB hF hK)
set_option maxRecDepth 100000 in
set_option maxHeartbeats 4000000 in
theorem law_12 {p : Program} {l : Launch} {e : Env} {s : State} {m : MethodId} {args : Array Value} {below : List Frame} {meth : Method} {c : Code} {D : va_G} {ad : Nat → Nat} {cA : Nat → ClassId} {A : Nat → Prop} {H0 : Heap} {Qf : State → Prop} {cl9 sl9 Ln : Nat} {sc : Nat → Int32} {w : gW} (X : Gx p s m args meth c ad A H0 cl9 sl9 Ln sc) {I : Nat} (h7 : I + 7 ≤ Ln) (h : LI w) (kk : ∀ w, LI w → Gl p l e s m args below meth c D ad cA A H0 Qf cl9 sl9 (1600, lvL (nI I), [], w)) : Gl p l e s m args below meth c D ad cA A H0 Qf cl9 sl9 (640, lvL (nI I), [], w) := by
  refine h (fun w => Gl p l e s m args below meth c D ad cA A H0 Qf cl9 sl9 (640, lvL (nI I), [], w)) ?_
  clear h
  intro T P N L O n a fo tu az ik im f pf af lf o g xs ys laws arms talk stX stY tolds szK foK tuK fK pzK pfK azK afK lzK lfK ozK oK img tb fx fy fan ln sn it lanes sizes items tp tl yz yo yt yf xz xf cz cm cl dz dfo dtu df tr ch m_fans m_at m_wrong m_read m_readArms m_some m_few m_laid m_moved hG hI hB hF hK
  have hS := hG.1
  have hT := hG.2.1
  have hL := hG.2.2.1
  have hO := hG.2.2.2
  refine Gl.run X qL_12 0 1 (641, lvL (nI I), [.ref 1], (WD ik fx fy (nI T) fo tu f (nI P) pf az af (nI L) lf (nI O) o szK foK tuK fK pzK pfK azK afK lzK lfK ozK oK (nI n) tp tl tb yz yo yt yf xz xf cz cm cl dz dfo dtu df tr ch (ln 0) (sn 0) (it 0) (ln 1) (sn 1) (it 1) (ln 2) (sn 2) (it 2) (ln 3) (sn 3) (it 3) m_fans (nI T) (nI P) (nI N) (nI L) (nI O) (nI n) m_at m_wrong im fan g xs ys laws arms talk stX stY tolds tb m_read m_readArms m_some m_few m_laid img lanes sizes items m_moved)) rfl ?_
  refine Gl.arg X h7 1 (by decide) qL_12 1 (z := 1) (by decide) rfl ?_
  refine Gl.arg X h7 2 (by decide) qL_12 6 (z := 2) (by decide) rfl ?_
  refine Gl.arg X h7 3 (by decide) qL_12 11 (z := 3) (by decide) rfl ?_
  refine Gl.arg X h7 4 (by decide) qL_12 16 (z := 4) (by decide) rfl ?_
  refine Gl.arg X h7 5 (by decide) qL_12 21 (z := 5) (by decide) rfl ?_
  refine Gl.argB X h7 6 (by decide) qL_12 26 (z := 6) (by decide) rfl ?_
  obtain ⟨r, h1, h2⟩ := eq_both hS (sc (I + 1)) (sc (I + 2)) (sc (I + 3)) (sc (I + 4)) (sc (I + 5)) (sc (I + 6))
  refine Gl.call X qL_12 31 rfl (c_X8_both ik (nI T) fo tu f (nI P) pf (sc (I + 1)) (sc (I + 2)) (sc (I + 3)) (sc (I + 4)) (sc (I + 5)) (sc (I + 6)) r h1) kL_69 0 rfl rfl (fun k => k + 1) [0, 4, 5, 6, 7, 8] rfl rfl rfl rfl ⟨rfl, rfl, by decide, by decide⟩ [] rfl (Nat.le_of_ble_eq_true rfl) [.int r] rfl (WD ik fx fy (nI T) fo tu f (nI P) pf az af (nI L) lf (nI O) o szK foK tuK fK pzK pfK azK afK lzK lfK ozK oK (nI n) tp tl tb yz yo yt yf xz xf cz cm cl dz dfo dtu df tr ch (ln 0) (sn 0) (it 0) (ln 1) (sn 1) (it 1) (ln 2) (sn 2) (it 2) (ln 3) (sn 3) (it 3) m_fans (nI T) (nI P) (nI N) (nI L) (nI O) (nI n) m_at m_wrong im fan g xs ys laws arms talk stX stY tolds tb m_read m_readArms m_some m_few m_laid img lanes sizes items m_moved) rfl ?_
  refine Gl.run X qL_12 32 1 (676, lvL (nI I), [.ref 50, .int r], (WD ik fx fy (nI T) fo tu f (nI P) pf az af (nI L) lf (nI O) o szK foK tuK fK pzK pfK azK afK lzK lfK ozK oK (nI n) tp tl tb yz yo yt yf xz xf cz cm cl dz dfo dtu df tr ch (ln 0) (sn 0) (it 0) (ln 1) (sn 1) (it 1) (ln 2) (sn 2) (it 2) (ln 3) (sn 3) (it 3) m_fans (nI T) (nI P) (nI N) (nI L) (nI O) (nI n) m_at m_wrong im fan g xs ys laws arms talk stX stY tolds tb m_read m_readArms m_some m_few m_laid img lanes sizes items m_moved)) rfl ?_
  refine Gl.arg X h7 1 (by decide) qL_12 33 (z := 1) (by decide) rfl ?_
  refine Gl.arg X h7 2 (by decide) qL_12 38 (z := 2) (by decide) rfl ?_
  refine Gl.arg X h7 3 (by decide) qL_12 43 (z := 3) (by decide) rfl ?_
  refine Gl.arg X h7 4 (by decide) qL_12 48 (z := 4) (by decide) rfl ?_
  refine Gl.arg X h7 5 (by decide) qL_12 53 (z := 5) (by decide) rfl ?_
  refine Gl.argB X h7 6 (by decide) qL_12 58 (z := 6) (by decide) rfl ?_
  refine Gl.call X qL_12 63 rfl (c_X9_both m_fans (nI T) (nI P) (nI N) (nI L) (nI O) (nI n) m_at m_wrong im g xs ys laws (sc (I + 1)) (sc (I + 2)) (sc (I + 3)) (sc (I + 4)) (sc (I + 5)) (sc (I + 6)) r h2) kL_73 0 rfl rfl (fun k => k + 50) [49, 51, 52, 53, 54] rfl rfl rfl rfl ⟨rfl, rfl, by decide, by decide⟩ [.int r] rfl (Nat.le_of_ble_eq_true rfl) [.int r, .int r] rfl (WD ik fx fy (nI T) fo tu f (nI P) pf az af (nI L) lf (nI O) o szK foK tuK fK pzK pfK azK afK lzK lfK ozK oK (nI n) tp tl tb yz yo yt yf xz xf cz cm cl dz dfo dtu df tr ch (ln 0) (sn 0) (it 0) (ln 1) (sn 1) (it 1) (ln 2) (sn 2) (it 2) (ln 3) (sn 3) (it 3) m_fans (nI T) (nI P) (nI N) (nI L) (nI O) (nI n) m_at m_wrong im fan g xs ys laws arms talk stX stY tolds tb m_read m_readArms m_some m_few m_laid img lanes sizes items m_moved) rfl ?_
  refine Gl.same X qL_12 64 890 rfl rfl ?_
  exact kk _ (fun Z k => k T P N L O n a fo tu az ik im f pf af lf o g xs ys laws arms talk stX stY tolds szK foK tuK fK pzK pfK azK afK lzK lfK ozK oK img tb fx fy fan ln sn it lanes sizes items tp tl yz yo yt yf xz xf cz cm cl dz dfo dtu df tr ch m_fans m_at m_wrong m_read m_readArms m_some m_few m_laid m_moved hG hI hB hF hK)
set_option maxRecDepth 100000 in
set_option maxHeartbeats 4000000 in
theorem law_13 {p : Program} {l : Launch} {e : Env} {s : State} {m : MethodId} {args : Array Value} {below : List Frame} {meth : Method} {c : Code} {D : va_G} {ad : Nat → Nat} {cA : Nat → ClassId} {A : Nat → Prop} {H0 : Heap} {Qf : State → Prop} {cl9 sl9 Ln : Nat} {sc : Nat → Int32} {w : gW} (X : Gx p s m args meth c ad A H0 cl9 sl9 Ln sc) {I : Nat} (h7 : I + 7 ≤ Ln) (h : LI w) (kk : ∀ w, LI w → Gl p l e s m args below meth c D ad cA A H0 Qf cl9 sl9 (1600, lvL (nI I), [], w)) : Gl p l e s m args below meth c D ad cA A H0 Qf cl9 sl9 (715, lvL (nI I), [], w) := by
  refine h (fun w => Gl p l e s m args below meth c D ad cA A H0 Qf cl9 sl9 (715, lvL (nI I), [], w)) ?_
  clear h
  intro T P N L O n a fo tu az ik im f pf af lf o g xs ys laws arms talk stX stY tolds szK foK tuK fK pzK pfK azK afK lzK lfK ozK oK img tb fx fy fan ln sn it lanes sizes items tp tl yz yo yt yf xz xf cz cm cl dz dfo dtu df tr ch m_fans m_at m_wrong m_read m_readArms m_some m_few m_laid m_moved hG hI hB hF hK
  have hS := hG.1
  have hT := hG.2.1
  have hL := hG.2.2.1
  have hO := hG.2.2.2
  refine Gl.run X qL_13 0 1 (716, lvL (nI I), [.ref 1], (WD ik fx fy (nI T) fo tu f (nI P) pf az af (nI L) lf (nI O) o szK foK tuK fK pzK pfK azK afK lzK lfK ozK oK (nI n) tp tl tb yz yo yt yf xz xf cz cm cl dz dfo dtu df tr ch (ln 0) (sn 0) (it 0) (ln 1) (sn 1) (it 1) (ln 2) (sn 2) (it 2) (ln 3) (sn 3) (it 3) m_fans (nI T) (nI P) (nI N) (nI L) (nI O) (nI n) m_at m_wrong im fan g xs ys laws arms talk stX stY tolds tb m_read m_readArms m_some m_few m_laid img lanes sizes items m_moved)) rfl ?_
  refine Gl.arg X h7 1 (by decide) qL_13 1 (z := 1) (by decide) rfl ?_
  refine Gl.arg X h7 2 (by decide) qL_13 6 (z := 2) (by decide) rfl ?_
  obtain ⟨r, h1, h2⟩ := eq_says hS hT (sc (I + 1)) (sc (I + 2))
  refine Gl.call X qL_13 11 rfl (c_X8_says ik (nI T) fo tu f (nI P) pf az af (sc (I + 1)) (sc (I + 2)) r h1) kL_74 0 rfl rfl (fun k => k + 1) [0, 4, 5, 6, 7, 8, 9, 10] rfl rfl rfl rfl ⟨rfl, rfl, by decide, by decide⟩ [] rfl (Nat.le_of_ble_eq_true rfl) [.int r] rfl (WD ik fx fy (nI T) fo tu f (nI P) pf az af (nI L) lf (nI O) o szK foK tuK fK pzK pfK azK afK lzK lfK ozK oK (nI n) tp tl tb yz yo yt yf xz xf cz cm cl dz dfo dtu df tr ch (ln 0) (sn 0) (it 0) (ln 1) (sn 1) (it 1) (ln 2) (sn 2) (it 2) (ln 3) (sn 3) (it 3) m_fans (nI T) (nI P) (nI N) (nI L) (nI O) (nI n) m_at m_wrong im fan g xs ys laws arms talk stX stY tolds tb m_read m_readArms m_some m_few m_laid img lanes sizes items m_moved) rfl ?_
  refine Gl.run X qL_13 12 1 (730, lvL (nI I), [.ref 50, .int r], (WD ik fx fy (nI T) fo tu f (nI P) pf az af (nI L) lf (nI O) o szK foK tuK fK pzK pfK azK afK lzK lfK ozK oK (nI n) tp tl tb yz yo yt yf xz xf cz cm cl dz dfo dtu df tr ch (ln 0) (sn 0) (it 0) (ln 1) (sn 1) (it 1) (ln 2) (sn 2) (it 2) (ln 3) (sn 3) (it 3) m_fans (nI T) (nI P) (nI N) (nI L) (nI O) (nI n) m_at m_wrong im fan g xs ys laws arms talk stX stY tolds tb m_read m_readArms m_some m_few m_laid img lanes sizes items m_moved)) rfl ?_
  refine Gl.arg X h7 1 (by decide) qL_13 13 (z := 1) (by decide) rfl ?_
  refine Gl.arg X h7 2 (by decide) qL_13 18 (z := 2) (by decide) rfl ?_
  refine Gl.call X qL_13 23 rfl (c_X9_says m_fans (nI T) (nI P) (nI N) (nI L) (nI O) (nI n) m_at m_wrong im g xs ys laws arms talk (sc (I + 1)) (sc (I + 2)) r h2) kL_77 0 rfl rfl (fun k => k + 50) [49, 51, 52, 53, 54, 55, 56] rfl rfl rfl rfl ⟨rfl, rfl, by decide, by decide⟩ [.int r] rfl (Nat.le_of_ble_eq_true rfl) [.int r, .int r] rfl (WD ik fx fy (nI T) fo tu f (nI P) pf az af (nI L) lf (nI O) o szK foK tuK fK pzK pfK azK afK lzK lfK ozK oK (nI n) tp tl tb yz yo yt yf xz xf cz cm cl dz dfo dtu df tr ch (ln 0) (sn 0) (it 0) (ln 1) (sn 1) (it 1) (ln 2) (sn 2) (it 2) (ln 3) (sn 3) (it 3) m_fans (nI T) (nI P) (nI N) (nI L) (nI O) (nI n) m_at m_wrong im fan g xs ys laws arms talk stX stY tolds tb m_read m_readArms m_some m_few m_laid img lanes sizes items m_moved) rfl ?_
  refine Gl.same X qL_13 24 857 rfl rfl ?_
  exact kk _ (fun Z k => k T P N L O n a fo tu az ik im f pf af lf o g xs ys laws arms talk stX stY tolds szK foK tuK fK pzK pfK azK afK lzK lfK ozK oK img tb fx fy fan ln sn it lanes sizes items tp tl yz yo yt yf xz xf cz cm cl dz dfo dtu df tr ch m_fans m_at m_wrong m_read m_readArms m_some m_few m_laid m_moved hG hI hB hF hK)
set_option maxRecDepth 100000 in
set_option maxHeartbeats 4000000 in
theorem law_14 {p : Program} {l : Launch} {e : Env} {s : State} {m : MethodId} {args : Array Value} {below : List Frame} {meth : Method} {c : Code} {D : va_G} {ad : Nat → Nat} {cA : Nat → ClassId} {A : Nat → Prop} {H0 : Heap} {Qf : State → Prop} {cl9 sl9 Ln : Nat} {sc : Nat → Int32} {w : gW} (X : Gx p s m args meth c ad A H0 cl9 sl9 Ln sc) {I : Nat} (h7 : I + 7 ≤ Ln) (h : LI w) (kk : ∀ w, LI w → Gl p l e s m args below meth c D ad cA A H0 Qf cl9 sl9 (1600, lvL (nI I), [], w)) : Gl p l e s m args below meth c D ad cA A H0 Qf cl9 sl9 (748, lvL (nI I), [], w) := by
  refine h (fun w => Gl p l e s m args below meth c D ad cA A H0 Qf cl9 sl9 (748, lvL (nI I), [], w)) ?_
  clear h
  intro T P N L O n a fo tu az ik im f pf af lf o g xs ys laws arms talk stX stY tolds szK foK tuK fK pzK pfK azK afK lzK lfK ozK oK img tb fx fy fan ln sn it lanes sizes items tp tl yz yo yt yf xz xf cz cm cl dz dfo dtu df tr ch m_fans m_at m_wrong m_read m_readArms m_some m_few m_laid m_moved hG hI hB hF hK
  have hS := hG.1
  have hT := hG.2.1
  have hL := hG.2.2.1
  have hO := hG.2.2.2
  refine Gl.run X qL_14 0 1 (749, lvL (nI I), [.ref 1], (WD ik fx fy (nI T) fo tu f (nI P) pf az af (nI L) lf (nI O) o szK foK tuK fK pzK pfK azK afK lzK lfK ozK oK (nI n) tp tl tb yz yo yt yf xz xf cz cm cl dz dfo dtu df tr ch (ln 0) (sn 0) (it 0) (ln 1) (sn 1) (it 1) (ln 2) (sn 2) (it 2) (ln 3) (sn 3) (it 3) m_fans (nI T) (nI P) (nI N) (nI L) (nI O) (nI n) m_at m_wrong im fan g xs ys laws arms talk stX stY tolds tb m_read m_readArms m_some m_few m_laid img lanes sizes items m_moved)) rfl ?_
  refine Gl.arg X h7 1 (by decide) qL_14 1 (z := 1) (by decide) rfl ?_
  obtain ⟨r, h1, h2⟩ := eq_dark hS hT (sc (I + 1))
  refine Gl.call X qL_14 6 rfl (c_X8_dark ik (nI T) fo tu f (nI P) pf az af (sc (I + 1)) r h1) kL_78 0 rfl rfl (fun k => k + 1) [0, 4, 5, 6, 7, 8, 9, 10] rfl rfl rfl rfl ⟨rfl, rfl, by decide, by decide⟩ [] rfl (Nat.le_of_ble_eq_true rfl) [.int r] rfl (WD ik fx fy (nI T) fo tu f (nI P) pf az af (nI L) lf (nI O) o szK foK tuK fK pzK pfK azK afK lzK lfK ozK oK (nI n) tp tl tb yz yo yt yf xz xf cz cm cl dz dfo dtu df tr ch (ln 0) (sn 0) (it 0) (ln 1) (sn 1) (it 1) (ln 2) (sn 2) (it 2) (ln 3) (sn 3) (it 3) m_fans (nI T) (nI P) (nI N) (nI L) (nI O) (nI n) m_at m_wrong im fan g xs ys laws arms talk stX stY tolds tb m_read m_readArms m_some m_few m_laid img lanes sizes items m_moved) rfl ?_
  refine Gl.run X qL_14 7 1 (758, lvL (nI I), [.ref 50, .int r], (WD ik fx fy (nI T) fo tu f (nI P) pf az af (nI L) lf (nI O) o szK foK tuK fK pzK pfK azK afK lzK lfK ozK oK (nI n) tp tl tb yz yo yt yf xz xf cz cm cl dz dfo dtu df tr ch (ln 0) (sn 0) (it 0) (ln 1) (sn 1) (it 1) (ln 2) (sn 2) (it 2) (ln 3) (sn 3) (it 3) m_fans (nI T) (nI P) (nI N) (nI L) (nI O) (nI n) m_at m_wrong im fan g xs ys laws arms talk stX stY tolds tb m_read m_readArms m_some m_few m_laid img lanes sizes items m_moved)) rfl ?_
  refine Gl.arg X h7 1 (by decide) qL_14 8 (z := 1) (by decide) rfl ?_
  refine Gl.call X qL_14 13 rfl (c_X9_dark m_fans (nI T) (nI P) (nI N) (nI L) (nI O) (nI n) m_at m_wrong im g xs ys laws arms talk (sc (I + 1)) r h2) kL_81 0 rfl rfl (fun k => k + 50) [49, 51, 52, 53, 54, 55, 56] rfl rfl rfl rfl ⟨rfl, rfl, by decide, by decide⟩ [.int r] rfl (Nat.le_of_ble_eq_true rfl) [.int r, .int r] rfl (WD ik fx fy (nI T) fo tu f (nI P) pf az af (nI L) lf (nI O) o szK foK tuK fK pzK pfK azK afK lzK lfK ozK oK (nI n) tp tl tb yz yo yt yf xz xf cz cm cl dz dfo dtu df tr ch (ln 0) (sn 0) (it 0) (ln 1) (sn 1) (it 1) (ln 2) (sn 2) (it 2) (ln 3) (sn 3) (it 3) m_fans (nI T) (nI P) (nI N) (nI L) (nI O) (nI n) m_at m_wrong im fan g xs ys laws arms talk stX stY tolds tb m_read m_readArms m_some m_few m_laid img lanes sizes items m_moved) rfl ?_
  refine Gl.same X qL_14 14 834 rfl rfl ?_
  exact kk _ (fun Z k => k T P N L O n a fo tu az ik im f pf af lf o g xs ys laws arms talk stX stY tolds szK foK tuK fK pzK pfK azK afK lzK lfK ozK oK img tb fx fy fan ln sn it lanes sizes items tp tl yz yo yt yf xz xf cz cm cl dz dfo dtu df tr ch m_fans m_at m_wrong m_read m_readArms m_some m_few m_laid m_moved hG hI hB hF hK)
set_option maxRecDepth 100000 in
set_option maxHeartbeats 4000000 in
theorem law_15 {p : Program} {l : Launch} {e : Env} {s : State} {m : MethodId} {args : Array Value} {below : List Frame} {meth : Method} {c : Code} {D : va_G} {ad : Nat → Nat} {cA : Nat → ClassId} {A : Nat → Prop} {H0 : Heap} {Qf : State → Prop} {cl9 sl9 Ln : Nat} {sc : Nat → Int32} {w : gW} (X : Gx p s m args meth c ad A H0 cl9 sl9 Ln sc) {I : Nat} (h7 : I + 7 ≤ Ln) (h : LI w) (kk : ∀ w, LI w → Gl p l e s m args below meth c D ad cA A H0 Qf cl9 sl9 (1600, lvL (nI I), [], w)) : Gl p l e s m args below meth c D ad cA A H0 Qf cl9 sl9 (771, lvL (nI I), [], w) := by
  refine h (fun w => Gl p l e s m args below meth c D ad cA A H0 Qf cl9 sl9 (771, lvL (nI I), [], w)) ?_
  clear h
  intro T P N L O n a fo tu az ik im f pf af lf o g xs ys laws arms talk stX stY tolds szK foK tuK fK pzK pfK azK afK lzK lfK ozK oK img tb fx fy fan ln sn it lanes sizes items tp tl yz yo yt yf xz xf cz cm cl dz dfo dtu df tr ch m_fans m_at m_wrong m_read m_readArms m_some m_few m_laid m_moved hG hI hB hF hK
  have hS := hG.1
  have hT := hG.2.1
  have hL := hG.2.2.1
  have hO := hG.2.2.2
  refine Gl.run X qL_15 0 1 (772, lvL (nI I), [.ref 1], (WD ik fx fy (nI T) fo tu f (nI P) pf az af (nI L) lf (nI O) o szK foK tuK fK pzK pfK azK afK lzK lfK ozK oK (nI n) tp tl tb yz yo yt yf xz xf cz cm cl dz dfo dtu df tr ch (ln 0) (sn 0) (it 0) (ln 1) (sn 1) (it 1) (ln 2) (sn 2) (it 2) (ln 3) (sn 3) (it 3) m_fans (nI T) (nI P) (nI N) (nI L) (nI O) (nI n) m_at m_wrong im fan g xs ys laws arms talk stX stY tolds tb m_read m_readArms m_some m_few m_laid img lanes sizes items m_moved)) rfl ?_
  refine Gl.arg X h7 1 (by decide) qL_15 1 (z := 1) (by decide) rfl ?_
  refine Gl.arg X h7 2 (by decide) qL_15 6 (z := 2) (by decide) rfl ?_
  refine Gl.arg X h7 3 (by decide) qL_15 11 (z := 3) (by decide) rfl ?_
  refine Gl.arg X h7 4 (by decide) qL_15 16 (z := 4) (by decide) rfl ?_
  obtain ⟨r, h1, h2⟩ := eq_when hS (sc (I + 1)) (sc (I + 2)) (sc (I + 3)) (sc (I + 4))
  refine Gl.call X qL_15 21 rfl (c_X8_when ik (nI T) fo tu f (nI P) pf (sc (I + 1)) (sc (I + 2)) (sc (I + 3)) (sc (I + 4)) r h1) kL_82 0 rfl rfl (fun k => k + 1) [0, 4, 5, 6, 7, 8] rfl rfl rfl rfl ⟨rfl, rfl, by decide, by decide⟩ [] rfl (Nat.le_of_ble_eq_true rfl) [.int r] rfl (WD ik fx fy (nI T) fo tu f (nI P) pf az af (nI L) lf (nI O) o szK foK tuK fK pzK pfK azK afK lzK lfK ozK oK (nI n) tp tl tb yz yo yt yf xz xf cz cm cl dz dfo dtu df tr ch (ln 0) (sn 0) (it 0) (ln 1) (sn 1) (it 1) (ln 2) (sn 2) (it 2) (ln 3) (sn 3) (it 3) m_fans (nI T) (nI P) (nI N) (nI L) (nI O) (nI n) m_at m_wrong im fan g xs ys laws arms talk stX stY tolds tb m_read m_readArms m_some m_few m_laid img lanes sizes items m_moved) rfl ?_
  refine Gl.run X qL_15 22 1 (796, lvL (nI I), [.ref 50, .int r], (WD ik fx fy (nI T) fo tu f (nI P) pf az af (nI L) lf (nI O) o szK foK tuK fK pzK pfK azK afK lzK lfK ozK oK (nI n) tp tl tb yz yo yt yf xz xf cz cm cl dz dfo dtu df tr ch (ln 0) (sn 0) (it 0) (ln 1) (sn 1) (it 1) (ln 2) (sn 2) (it 2) (ln 3) (sn 3) (it 3) m_fans (nI T) (nI P) (nI N) (nI L) (nI O) (nI n) m_at m_wrong im fan g xs ys laws arms talk stX stY tolds tb m_read m_readArms m_some m_few m_laid img lanes sizes items m_moved)) rfl ?_
  refine Gl.arg X h7 1 (by decide) qL_15 23 (z := 1) (by decide) rfl ?_
  refine Gl.arg X h7 2 (by decide) qL_15 28 (z := 2) (by decide) rfl ?_
  refine Gl.arg X h7 3 (by decide) qL_15 33 (z := 3) (by decide) rfl ?_
  refine Gl.arg X h7 4 (by decide) qL_15 38 (z := 4) (by decide) rfl ?_
  refine Gl.call X qL_15 43 rfl (c_X9_when m_fans (nI T) (nI P) (nI N) (nI L) (nI O) (nI n) m_at m_wrong im g xs ys laws (sc (I + 1)) (sc (I + 2)) (sc (I + 3)) (sc (I + 4)) r h2) kL_85 0 rfl rfl (fun k => k + 50) [49, 51, 52, 53, 54] rfl rfl rfl rfl ⟨rfl, rfl, by decide, by decide⟩ [.int r] rfl (Nat.le_of_ble_eq_true rfl) [.int r, .int r] rfl (WD ik fx fy (nI T) fo tu f (nI P) pf az af (nI L) lf (nI O) o szK foK tuK fK pzK pfK azK afK lzK lfK ozK oK (nI n) tp tl tb yz yo yt yf xz xf cz cm cl dz dfo dtu df tr ch (ln 0) (sn 0) (it 0) (ln 1) (sn 1) (it 1) (ln 2) (sn 2) (it 2) (ln 3) (sn 3) (it 3) m_fans (nI T) (nI P) (nI N) (nI L) (nI O) (nI n) m_at m_wrong im fan g xs ys laws arms talk stX stY tolds tb m_read m_readArms m_some m_few m_laid img lanes sizes items m_moved) rfl ?_
  refine Gl.same X qL_15 44 781 rfl rfl ?_
  exact kk _ (fun Z k => k T P N L O n a fo tu az ik im f pf af lf o g xs ys laws arms talk stX stY tolds szK foK tuK fK pzK pfK azK afK lzK lfK ozK oK img tb fx fy fan ln sn it lanes sizes items tp tl yz yo yt yf xz xf cz cm cl dz dfo dtu df tr ch m_fans m_at m_wrong m_read m_readArms m_some m_few m_laid m_moved hG hI hB hF hK)
set_option maxRecDepth 100000 in
set_option maxHeartbeats 4000000 in
theorem law_16 {p : Program} {l : Launch} {e : Env} {s : State} {m : MethodId} {args : Array Value} {below : List Frame} {meth : Method} {c : Code} {D : va_G} {ad : Nat → Nat} {cA : Nat → ClassId} {A : Nat → Prop} {H0 : Heap} {Qf : State → Prop} {cl9 sl9 Ln : Nat} {sc : Nat → Int32} {w : gW} (X : Gx p s m args meth c ad A H0 cl9 sl9 Ln sc) {I : Nat} (h7 : I + 7 ≤ Ln) (h : LI w) (kk : ∀ w, LI w → Gl p l e s m args below meth c D ad cA A H0 Qf cl9 sl9 (1600, lvL (nI I), [], w)) : Gl p l e s m args below meth c D ad cA A H0 Qf cl9 sl9 (824, lvL (nI I), [], w) := by
  refine h (fun w => Gl p l e s m args below meth c D ad cA A H0 Qf cl9 sl9 (824, lvL (nI I), [], w)) ?_
  clear h
  intro T P N L O n a fo tu az ik im f pf af lf o g xs ys laws arms talk stX stY tolds szK foK tuK fK pzK pfK azK afK lzK lfK ozK oK img tb fx fy fan ln sn it lanes sizes items tp tl yz yo yt yf xz xf cz cm cl dz dfo dtu df tr ch m_fans m_at m_wrong m_read m_readArms m_some m_few m_laid m_moved hG hI hB hF hK
  have hS := hG.1
  have hT := hG.2.1
  have hL := hG.2.2.1
  have hO := hG.2.2.2
  refine Gl.run X qL_16 0 1 (825, lvL (nI I), [.ref 1], (WD ik fx fy (nI T) fo tu f (nI P) pf az af (nI L) lf (nI O) o szK foK tuK fK pzK pfK azK afK lzK lfK ozK oK (nI n) tp tl tb yz yo yt yf xz xf cz cm cl dz dfo dtu df tr ch (ln 0) (sn 0) (it 0) (ln 1) (sn 1) (it 1) (ln 2) (sn 2) (it 2) (ln 3) (sn 3) (it 3) m_fans (nI T) (nI P) (nI N) (nI L) (nI O) (nI n) m_at m_wrong im fan g xs ys laws arms talk stX stY tolds tb m_read m_readArms m_some m_few m_laid img lanes sizes items m_moved)) rfl ?_
  refine Gl.arg X h7 1 (by decide) qL_16 1 (z := 1) (by decide) rfl ?_
  refine Gl.arg X h7 2 (by decide) qL_16 6 (z := 2) (by decide) rfl ?_
  refine Gl.arg X h7 3 (by decide) qL_16 11 (z := 3) (by decide) rfl ?_
  refine Gl.arg X h7 4 (by decide) qL_16 16 (z := 4) (by decide) rfl ?_
  obtain ⟨r, h1, h2⟩ := eq_misread hS (sc (I + 1)) (sc (I + 2)) (sc (I + 3)) (sc (I + 4))
  refine Gl.call X qL_16 21 rfl (c_X8_misread ik (nI T) fo tu f (nI P) pf (sc (I + 1)) (sc (I + 2)) (sc (I + 3)) (sc (I + 4)) r h1) kL_86 0 rfl rfl (fun k => k + 1) [0, 4, 5, 6, 7, 8] rfl rfl rfl rfl ⟨rfl, rfl, by decide, by decide⟩ [] rfl (Nat.le_of_ble_eq_true rfl) [.int r] rfl (WD ik fx fy (nI T) fo tu f (nI P) pf az af (nI L) lf (nI O) o szK foK tuK fK pzK pfK azK afK lzK lfK ozK oK (nI n) tp tl tb yz yo yt yf xz xf cz cm cl dz dfo dtu df tr ch (ln 0) (sn 0) (it 0) (ln 1) (sn 1) (it 1) (ln 2) (sn 2) (it 2) (ln 3) (sn 3) (it 3) m_fans (nI T) (nI P) (nI N) (nI L) (nI O) (nI n) m_at m_wrong im fan g xs ys laws arms talk stX stY tolds tb m_read m_readArms m_some m_few m_laid img lanes sizes items m_moved) rfl ?_
  refine Gl.run X qL_16 22 1 (849, lvL (nI I), [.ref 50, .int r], (WD ik fx fy (nI T) fo tu f (nI P) pf az af (nI L) lf (nI O) o szK foK tuK fK pzK pfK azK afK lzK lfK ozK oK (nI n) tp tl tb yz yo yt yf xz xf cz cm cl dz dfo dtu df tr ch (ln 0) (sn 0) (it 0) (ln 1) (sn 1) (it 1) (ln 2) (sn 2) (it 2) (ln 3) (sn 3) (it 3) m_fans (nI T) (nI P) (nI N) (nI L) (nI O) (nI n) m_at m_wrong im fan g xs ys laws arms talk stX stY tolds tb m_read m_readArms m_some m_few m_laid img lanes sizes items m_moved)) rfl ?_
  refine Gl.arg X h7 1 (by decide) qL_16 23 (z := 1) (by decide) rfl ?_
  refine Gl.arg X h7 2 (by decide) qL_16 28 (z := 2) (by decide) rfl ?_
  refine Gl.arg X h7 3 (by decide) qL_16 33 (z := 3) (by decide) rfl ?_
  refine Gl.arg X h7 4 (by decide) qL_16 38 (z := 4) (by decide) rfl ?_
  refine Gl.call X qL_16 43 rfl (c_X9_misread m_fans (nI T) (nI P) (nI N) (nI L) (nI O) (nI n) m_at m_wrong im g xs ys laws (sc (I + 1)) (sc (I + 2)) (sc (I + 3)) (sc (I + 4)) r h2) kL_89 0 rfl rfl (fun k => k + 50) [49, 51, 52, 53, 54] rfl rfl rfl rfl ⟨rfl, rfl, by decide, by decide⟩ [.int r] rfl (Nat.le_of_ble_eq_true rfl) [.int r, .int r] rfl (WD ik fx fy (nI T) fo tu f (nI P) pf az af (nI L) lf (nI O) o szK foK tuK fK pzK pfK azK afK lzK lfK ozK oK (nI n) tp tl tb yz yo yt yf xz xf cz cm cl dz dfo dtu df tr ch (ln 0) (sn 0) (it 0) (ln 1) (sn 1) (it 1) (ln 2) (sn 2) (it 2) (ln 3) (sn 3) (it 3) m_fans (nI T) (nI P) (nI N) (nI L) (nI O) (nI n) m_at m_wrong im fan g xs ys laws arms talk stX stY tolds tb m_read m_readArms m_some m_few m_laid img lanes sizes items m_moved) rfl ?_
  refine Gl.same X qL_16 44 728 rfl rfl ?_
  exact kk _ (fun Z k => k T P N L O n a fo tu az ik im f pf af lf o g xs ys laws arms talk stX stY tolds szK foK tuK fK pzK pfK azK afK lzK lfK ozK oK img tb fx fy fan ln sn it lanes sizes items tp tl yz yo yt yf xz xf cz cm cl dz dfo dtu df tr ch m_fans m_at m_wrong m_read m_readArms m_some m_few m_laid m_moved hG hI hB hF hK)
set_option maxRecDepth 100000 in
set_option maxHeartbeats 4000000 in
theorem law_17 {p : Program} {l : Launch} {e : Env} {s : State} {m : MethodId} {args : Array Value} {below : List Frame} {meth : Method} {c : Code} {D : va_G} {ad : Nat → Nat} {cA : Nat → ClassId} {A : Nat → Prop} {H0 : Heap} {Qf : State → Prop} {cl9 sl9 Ln : Nat} {sc : Nat → Int32} {w : gW} (X : Gx p s m args meth c ad A H0 cl9 sl9 Ln sc) {I : Nat} (h7 : I + 7 ≤ Ln) (h : LI w) (kk : ∀ w, LI w → Gl p l e s m args below meth c D ad cA A H0 Qf cl9 sl9 (1600, lvL (nI I), [], w)) : Gl p l e s m args below meth c D ad cA A H0 Qf cl9 sl9 (877, lvL (nI I), [], w) := by
  refine h (fun w => Gl p l e s m args below meth c D ad cA A H0 Qf cl9 sl9 (877, lvL (nI I), [], w)) ?_
  clear h
  intro T P N L O n a fo tu az ik im f pf af lf o g xs ys laws arms talk stX stY tolds szK foK tuK fK pzK pfK azK afK lzK lfK ozK oK img tb fx fy fan ln sn it lanes sizes items tp tl yz yo yt yf xz xf cz cm cl dz dfo dtu df tr ch m_fans m_at m_wrong m_read m_readArms m_some m_few m_laid m_moved hG hI hB hF hK
  have hS := hG.1
  have hT := hG.2.1
  have hL := hG.2.2.1
  have hO := hG.2.2.2
  refine Gl.run X qL_17 0 1 (878, lvL (nI I), [.ref 1], (WD ik fx fy (nI T) fo tu f (nI P) pf az af (nI L) lf (nI O) o szK foK tuK fK pzK pfK azK afK lzK lfK ozK oK (nI n) tp tl tb yz yo yt yf xz xf cz cm cl dz dfo dtu df tr ch (ln 0) (sn 0) (it 0) (ln 1) (sn 1) (it 1) (ln 2) (sn 2) (it 2) (ln 3) (sn 3) (it 3) m_fans (nI T) (nI P) (nI N) (nI L) (nI O) (nI n) m_at m_wrong im fan g xs ys laws arms talk stX stY tolds tb m_read m_readArms m_some m_few m_laid img lanes sizes items m_moved)) rfl ?_
  refine Gl.arg X h7 1 (by decide) qL_17 1 (z := 1) (by decide) rfl ?_
  refine Gl.arg X h7 2 (by decide) qL_17 6 (z := 2) (by decide) rfl ?_
  refine Gl.arg X h7 3 (by decide) qL_17 11 (z := 3) (by decide) rfl ?_
  refine Gl.arg X h7 4 (by decide) qL_17 16 (z := 4) (by decide) rfl ?_
  refine Gl.arg X h7 5 (by decide) qL_17 21 (z := 5) (by decide) rfl ?_
  refine Gl.argB X h7 6 (by decide) qL_17 26 (z := 6) (by decide) rfl ?_
  obtain ⟨r, h1, h2⟩ := eq_bargain hS (sc (I + 1)) (sc (I + 2)) (sc (I + 3)) (sc (I + 4)) (sc (I + 5)) (sc (I + 6))
  refine Gl.call X qL_17 31 rfl (c_X8_bargain ik (nI T) fo tu f (nI P) pf (sc (I + 1)) (sc (I + 2)) (sc (I + 3)) (sc (I + 4)) (sc (I + 5)) (sc (I + 6)) r h1) kL_90 0 rfl rfl (fun k => k + 1) [0, 4, 5, 6, 7, 8] rfl rfl rfl rfl ⟨rfl, rfl, by decide, by decide⟩ [] rfl (Nat.le_of_ble_eq_true rfl) [.int r] rfl (WD ik fx fy (nI T) fo tu f (nI P) pf az af (nI L) lf (nI O) o szK foK tuK fK pzK pfK azK afK lzK lfK ozK oK (nI n) tp tl tb yz yo yt yf xz xf cz cm cl dz dfo dtu df tr ch (ln 0) (sn 0) (it 0) (ln 1) (sn 1) (it 1) (ln 2) (sn 2) (it 2) (ln 3) (sn 3) (it 3) m_fans (nI T) (nI P) (nI N) (nI L) (nI O) (nI n) m_at m_wrong im fan g xs ys laws arms talk stX stY tolds tb m_read m_readArms m_some m_few m_laid img lanes sizes items m_moved) rfl ?_
  refine Gl.run X qL_17 32 1 (913, lvL (nI I), [.ref 50, .int r], (WD ik fx fy (nI T) fo tu f (nI P) pf az af (nI L) lf (nI O) o szK foK tuK fK pzK pfK azK afK lzK lfK ozK oK (nI n) tp tl tb yz yo yt yf xz xf cz cm cl dz dfo dtu df tr ch (ln 0) (sn 0) (it 0) (ln 1) (sn 1) (it 1) (ln 2) (sn 2) (it 2) (ln 3) (sn 3) (it 3) m_fans (nI T) (nI P) (nI N) (nI L) (nI O) (nI n) m_at m_wrong im fan g xs ys laws arms talk stX stY tolds tb m_read m_readArms m_some m_few m_laid img lanes sizes items m_moved)) rfl ?_
  refine Gl.arg X h7 1 (by decide) qL_17 33 (z := 1) (by decide) rfl ?_
  refine Gl.arg X h7 2 (by decide) qL_17 38 (z := 2) (by decide) rfl ?_
  refine Gl.arg X h7 3 (by decide) qL_17 43 (z := 3) (by decide) rfl ?_
  refine Gl.arg X h7 4 (by decide) qL_17 48 (z := 4) (by decide) rfl ?_
  refine Gl.arg X h7 5 (by decide) qL_17 53 (z := 5) (by decide) rfl ?_
  refine Gl.argB X h7 6 (by decide) qL_17 58 (z := 6) (by decide) rfl ?_
  refine Gl.call X qL_17 63 rfl (c_X9_bargain m_fans (nI T) (nI P) (nI N) (nI L) (nI O) (nI n) m_at m_wrong im g xs ys laws (sc (I + 1)) (sc (I + 2)) (sc (I + 3)) (sc (I + 4)) (sc (I + 5)) (sc (I + 6)) r h2) kL_93 0 rfl rfl (fun k => k + 50) [49, 51, 52, 53, 54] rfl rfl rfl rfl ⟨rfl, rfl, by decide, by decide⟩ [.int r] rfl (Nat.le_of_ble_eq_true rfl) [.int r, .int r] rfl (WD ik fx fy (nI T) fo tu f (nI P) pf az af (nI L) lf (nI O) o szK foK tuK fK pzK pfK azK afK lzK lfK ozK oK (nI n) tp tl tb yz yo yt yf xz xf cz cm cl dz dfo dtu df tr ch (ln 0) (sn 0) (it 0) (ln 1) (sn 1) (it 1) (ln 2) (sn 2) (it 2) (ln 3) (sn 3) (it 3) m_fans (nI T) (nI P) (nI N) (nI L) (nI O) (nI n) m_at m_wrong im fan g xs ys laws arms talk stX stY tolds tb m_read m_readArms m_some m_few m_laid img lanes sizes items m_moved) rfl ?_
  refine Gl.same X qL_17 64 653 rfl rfl ?_
  exact kk _ (fun Z k => k T P N L O n a fo tu az ik im f pf af lf o g xs ys laws arms talk stX stY tolds szK foK tuK fK pzK pfK azK afK lzK lfK ozK oK img tb fx fy fan ln sn it lanes sizes items tp tl yz yo yt yf xz xf cz cm cl dz dfo dtu df tr ch m_fans m_at m_wrong m_read m_readArms m_some m_few m_laid m_moved hG hI hB hF hK)
