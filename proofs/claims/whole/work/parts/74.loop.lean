/-! Written by wip/gen/last.py: the law's loop. -/
set_option maxRecDepth 100000 in
set_option maxHeartbeats 4000000 in
theorem law_loop {p : Program} {l : Launch} {e : Env} {s : State} {m : MethodId} {args : Array Value} {below : List Frame} {meth : Method} {c : Code} {D : va_G} {ad : Nat → Nat} {cA : Nat → ClassId} {A : Nat → Prop} {H0 : Heap} {Qf : State → Prop} {cl9 sl9 Ln : Nat} {sc : Nat → Int32} (X : Gx p s m args meth c ad A H0 cl9 sl9 Ln sc) (kend : ∀ lv w, Gl p l e s m args below meth c D ad cA A H0 Qf cl9 sl9 (1606, lv, [], w)) : ∀ (d I : Nat) (w : gW), I ≤ Ln → Ln + 1 ≤ I + d → LI w → Gl p l e s m args below meth c D ad cA A H0 Qf cl9 sl9 (18, lvL (nI I), [], w) := by
  intro d
  have hLn := X.2.2.2.2.2.2.2
  induction d with
  | zero =>
    intro I w h1 h2
    exact absurd h2 (by omega)
  | succ d ih =>
    intro I w h1 h2 hw
    refine Gl.run X qL_a 10 2 (20, lvL (nI I), [.ref 0, .int (nI I)], w) rfl ?_
    refine Gl.slen X (qL_a.at2 12 (ins := .arraylength) rfl rfl) ?_
    refine Gl.run X qL_a 13 2 (24, lvL (nI I), [.int (nI Ln - 7), .int (nI I)], w) rfl ?_
    by_cases hc : nI Ln - 7 < nI I
    · exact Gl.go X (Tc_gt qL_a 15 1582 1606 rfl rfl (fun _ => Go.exit (E := fun z => z = (1606, lvL (nI I), [], w)) rfl) (fun h9 => absurd hc h9)) (fun z hz => by rw [hz]; exact kend _ _)
    · have h7 : I + 7 ≤ Ln := by
        have e1 := nI_toInt (n := Ln) (by omega)
        have e2 := nI_toInt (n := I) (by omega)
        have e3 : (7 : Int32).toInt = 7 := by decide
        have e4 := fb_subI (x := nI Ln) (y := 7) (by omega) (by omega)
        rw [gI_lt] at hc
        omega
      refine Gl.go X (Tc_gt qL_a 15 1582 1606 rfl rfl (fun h9 => absurd h9 hc) (fun _ => Go.exit (E := fun z => z = (27, lvL (nI I), [], w)) rfl)) (fun z hz => ?_)
      rw [hz]
      refine Gl.run X qL_a 16 2 (29, lvL (nI I), [.int (nI I), .ref 0], w) rfl ?_
      refine Gl.sld X (nI_in (by omega) (by omega)) (qL_a.at2 18 (ins := .iaload) rfl rfl) ?_
      refine Gl.run X qL_a 19 2 (33, lvL (nI I), [.int (sc (nI I).toNatClampNeg &&& 63)], w) rfl ?_
      have nxt : ∀ w, LI w → Gl p l e s m args below meth c D ad cA A H0 Qf cl9 sl9 (1600, lvL (nI I), [], w) := by
        intro w hw
        refine Gl.run X qL_z 0 2 (18, [(3, .int (nI I + 7)), (0, .ref 0), (1, .ref 1), (2, .ref 50)], [], w) rfl ?_
        refine Gl.go X (Go.loc [1, 2, 3, 0] rfl (Go.exit (E := fun z => z = (18, lvL (nI I + 7), [], w)) rfl)) (fun z hz => ?_)
        rw [hz, show nI I + 7 = nI (I + 7) from nI_add I 7]
        exact ih (I + 7) w h7 (by omega) hw
      refine Gl.go X (E := fun z => z.1 ∈ 1600 :: [184, 227, 270, 313, 346, 389, 422, 485, 498, 511, 534, 587, 640, 715, 748, 771, 824, 877, 952, 1005, 1038, 1081, 1134, 1177, 1200, 1233, 1286, 1299, 1312, 1325, 1388, 1431, 1454, 1537] ∧ z = (z.1, lvL (nI I), [], w)) (Go.tswN tL_33 1600 rfl [184, 227, 270, 313, 346, 389, 422, 485, 498, 511, 534, 587, 640, 715, 748, 771, 824, 877, 952, 1005, 1038, 1081, 1134, 1177, 1200, 1233, 1286, 1299, 1312, 1325, 1388, 1431, 1454, 1537] rfl rfl (fun _ => Go.exit ⟨List.mem_cons_self, rfl⟩) (fun j t ht _ => Go.exit ⟨List.mem_cons_of_mem _ (List.mem_of_getElem? ht), rfl⟩)) (fun z hz => ?_)
      obtain ⟨hm, hz⟩ := hz
      rw [hz]
      generalize z.1 = t at hm ⊢
      simp only [List.mem_cons, List.not_mem_nil, or_false] at hm
      rcases hm with rfl | rfl | rfl | rfl | rfl | rfl | rfl | rfl | rfl | rfl | rfl | rfl | rfl | rfl | rfl | rfl | rfl | rfl | rfl | rfl | rfl | rfl | rfl | rfl | rfl | rfl | rfl | rfl | rfl | rfl | rfl | rfl | rfl | rfl | rfl
      · exact nxt w hw
      · exact law_0 X h7 hw nxt
      · exact law_1 X h7 hw nxt
      · exact law_2 X h7 hw nxt
      · exact law_3 X h7 hw nxt
      · exact law_4 X h7 hw nxt
      · exact law_5 X h7 hw nxt
      · exact law_6 X h7 hw nxt
      · exact law_7 X h7 hw nxt
      · exact law_8 X h7 hw nxt
      · exact law_9 X h7 hw nxt
      · exact law_10 X h7 hw nxt
      · exact law_11 X h7 hw nxt
      · exact law_12 X h7 hw nxt
      · exact law_13 X h7 hw nxt
      · exact law_14 X h7 hw nxt
      · exact law_15 X h7 hw nxt
      · exact law_16 X h7 hw nxt
      · exact law_17 X h7 hw nxt
      · exact law_18 X h7 hw nxt
      · exact law_19 X h7 hw nxt
      · exact law_20 X h7 hw nxt
      · exact law_21 X h7 hw nxt
      · exact law_22 X h7 hw nxt
      · exact law_23 X h7 hw nxt
      · exact law_24 X h7 hw nxt
      · exact law_25 X h7 hw nxt
      · exact law_26 X h7 hw nxt
      · exact law_27 X h7 hw nxt
      · exact law_28 X h7 hw nxt
      · exact law_29 X h7 hw nxt
      · exact law_30 X h7 hw nxt
      · exact law_31 X h7 hw nxt
      · exact law_32 X h7 hw nxt
      · exact law_33 X h7 hw nxt
