/-! Written by wip/gen/spec.py: part 11.small. -/
def R_ntz : Room := { frames := 0, cells := 0, slots := 0, locals := 0 }
noncomputable def F_ntz (x : Int32) : Option Int32 :=
  if 0 < ((x ^^^ (-1)) &&& (x - 1)) then (if ((x ^^^ (-1)) &&& (x - 1)) ≤ 65536 then (if ((x ^^^ (-1)) &&& (x - 1)) ≤ 256 then (if ((x ^^^ (-1)) &&& (x - 1)) ≤ 16 then (if ((x ^^^ (-1)) &&& (x - 1)) ≤ 4 then (some (1 + (gushr ((x ^^^ (-1)) &&& (x - 1)) 1))) else (some (3 + (gushr (gushr ((x ^^^ (-1)) &&& (x - 1)) 2) 1)))) else (if (gushr ((x ^^^ (-1)) &&& (x - 1)) 4) ≤ 4 then (some (5 + (gushr (gushr ((x ^^^ (-1)) &&& (x - 1)) 4) 1))) else (some (7 + (gushr (gushr (gushr ((x ^^^ (-1)) &&& (x - 1)) 4) 2) 1))))) else (if (gushr ((x ^^^ (-1)) &&& (x - 1)) 8) ≤ 16 then (if (gushr ((x ^^^ (-1)) &&& (x - 1)) 8) ≤ 4 then (some (9 + (gushr (gushr ((x ^^^ (-1)) &&& (x - 1)) 8) 1))) else (some (11 + (gushr (gushr (gushr ((x ^^^ (-1)) &&& (x - 1)) 8) 2) 1)))) else (if (gushr (gushr ((x ^^^ (-1)) &&& (x - 1)) 8) 4) ≤ 4 then (some (13 + (gushr (gushr (gushr ((x ^^^ (-1)) &&& (x - 1)) 8) 4) 1))) else (some (15 + (gushr (gushr (gushr (gushr ((x ^^^ (-1)) &&& (x - 1)) 8) 4) 2) 1)))))) else (if (gushr ((x ^^^ (-1)) &&& (x - 1)) 16) ≤ 256 then (if (gushr ((x ^^^ (-1)) &&& (x - 1)) 16) ≤ 16 then (if (gushr ((x ^^^ (-1)) &&& (x - 1)) 16) ≤ 4 then (some (17 + (gushr (gushr ((x ^^^ (-1)) &&& (x - 1)) 16) 1))) else (some (19 + (gushr (gushr (gushr ((x ^^^ (-1)) &&& (x - 1)) 16) 2) 1)))) else (if (gushr (gushr ((x ^^^ (-1)) &&& (x - 1)) 16) 4) ≤ 4 then (some (21 + (gushr (gushr (gushr ((x ^^^ (-1)) &&& (x - 1)) 16) 4) 1))) else (some (23 + (gushr (gushr (gushr (gushr ((x ^^^ (-1)) &&& (x - 1)) 16) 4) 2) 1))))) else (if (gushr (gushr ((x ^^^ (-1)) &&& (x - 1)) 16) 8) ≤ 16 then (if (gushr (gushr ((x ^^^ (-1)) &&& (x - 1)) 16) 8) ≤ 4 then (some (25 + (gushr (gushr (gushr ((x ^^^ (-1)) &&& (x - 1)) 16) 8) 1))) else (some (27 + (gushr (gushr (gushr (gushr ((x ^^^ (-1)) &&& (x - 1)) 16) 8) 2) 1)))) else (if (gushr (gushr (gushr ((x ^^^ (-1)) &&& (x - 1)) 16) 8) 4) ≤ 4 then (some (29 + (gushr (gushr (gushr (gushr ((x ^^^ (-1)) &&& (x - 1)) 16) 8) 4) 1))) else (some (31 + (gushr (gushr (gushr (gushr (gushr ((x ^^^ (-1)) &&& (x - 1)) 16) 8) 4) 2) 1))))))) else (some (((x ^^^ (-1)) &&& (x - 1)) &&& 32))
set_option maxRecDepth 100000 in
set_option maxHeartbeats 4000000 in
theorem c_ntz (x : Int32) (rr : Int32) (hF : F_ntz x = some rr) : Cd mJ6_numberOfTrailingZeros_0f7a4 R_ntz [.int x] [] (some (.int rr)) [] := by
  unfold F_ntz at hF
  refine Ct.of rfl (Nat.le_of_ble_eq_true rfl) ?_
  refine Go.run qJ6_numberOfTrailingZeros_0f7a4 IJ6_ok 0 9 (9, [(0, .int ((x ^^^ (-1)) &&& (x - 1)))], [.int ((x ^^^ (-1)) &&& (x - 1))], []) [] rfl trivial ?_
  refine Ti_gt qJ6_numberOfTrailingZeros_0f7a4 9 8 17 rfl rfl (fun hb1 => ?_) (fun hb1 => ?_)
  · replace hF := gpos hb1 hF
    refine Go.run qJ6_numberOfTrailingZeros_0f7a4 IJ6_ok 14 4 (23, [(1, .int 1), (0, .int ((x ^^^ (-1)) &&& (x - 1)))], [.int 65536, .int ((x ^^^ (-1)) &&& (x - 1))], []) [] rfl trivial ?_
    refine Tc_le qJ6_numberOfTrailingZeros_0f7a4 18 11 34 rfl rfl (fun hb2 => ?_) (fun hb2 => ?_)
    · replace hF := gpos hb2 hF
      refine Go.run qJ6_numberOfTrailingZeros_0f7a4 IJ6_ok 24 2 (38, [(1, .int 1), (0, .int ((x ^^^ (-1)) &&& (x - 1)))], [.int 256, .int ((x ^^^ (-1)) &&& (x - 1))], []) [] rfl trivial ?_
      refine Tc_le qJ6_numberOfTrailingZeros_0f7a4 26 11 49 rfl rfl (fun hb3 => ?_) (fun hb3 => ?_)
      · replace hF := gpos hb3 hF
        refine Go.run qJ6_numberOfTrailingZeros_0f7a4 IJ6_ok 32 2 (52, [(1, .int 1), (0, .int ((x ^^^ (-1)) &&& (x - 1)))], [.int 16, .int ((x ^^^ (-1)) &&& (x - 1))], []) [] rfl trivial ?_
        refine Tc_le qJ6_numberOfTrailingZeros_0f7a4 34 10 62 rfl rfl (fun hb4 => ?_) (fun hb4 => ?_)
        · replace hF := gpos hb4 hF
          refine Go.run qJ6_numberOfTrailingZeros_0f7a4 IJ6_ok 40 2 (64, [(1, .int 1), (0, .int ((x ^^^ (-1)) &&& (x - 1)))], [.int 4, .int ((x ^^^ (-1)) &&& (x - 1))], []) [] rfl trivial ?_
          refine Tc_le qJ6_numberOfTrailingZeros_0f7a4 42 10 74 rfl rfl (fun hb5 => ?_) (fun hb5 => ?_)
          · replace hF := gpos hb5 hF
            refine Go.run qJ6_numberOfTrailingZeros_0f7a4 IJ6_ok 48 5 (79, [(1, .int 1), (0, .int ((x ^^^ (-1)) &&& (x - 1)))], [.int (1 + (gushr ((x ^^^ (-1)) &&& (x - 1)) 1))], []) [] rfl trivial ?_
            obtain rfl := Option.some.inj hF
            exact Tr_i qJ6_numberOfTrailingZeros_0f7a4 53 rfl rfl ⟨rfl, rfl⟩
          · replace hF := gneg hb5 hF
            refine Go.run qJ6_numberOfTrailingZeros_0f7a4 IJ6_ok 43 10 (79, [(0, .int (gushr ((x ^^^ (-1)) &&& (x - 1)) 2)), (1, .int 3)], [.int (3 + (gushr (gushr ((x ^^^ (-1)) &&& (x - 1)) 2) 1))], []) [] rfl trivial ?_
            obtain rfl := Option.some.inj hF
            exact Tr_i qJ6_numberOfTrailingZeros_0f7a4 53 rfl rfl ⟨rfl, rfl⟩
        · replace hF := gneg hb4 hF
          refine Go.run qJ6_numberOfTrailingZeros_0f7a4 IJ6_ok 35 7 (64, [(0, .int (gushr ((x ^^^ (-1)) &&& (x - 1)) 4)), (1, .int 5)], [.int 4, .int (gushr ((x ^^^ (-1)) &&& (x - 1)) 4)], []) [] rfl trivial ?_
          refine Tc_le qJ6_numberOfTrailingZeros_0f7a4 42 10 74 rfl rfl (fun hb6 => ?_) (fun hb6 => ?_)
          · replace hF := gpos hb6 hF
            refine Go.run qJ6_numberOfTrailingZeros_0f7a4 IJ6_ok 48 5 (79, [(0, .int (gushr ((x ^^^ (-1)) &&& (x - 1)) 4)), (1, .int 5)], [.int (5 + (gushr (gushr ((x ^^^ (-1)) &&& (x - 1)) 4) 1))], []) [] rfl trivial ?_
            obtain rfl := Option.some.inj hF
            exact Tr_i qJ6_numberOfTrailingZeros_0f7a4 53 rfl rfl ⟨rfl, rfl⟩
          · replace hF := gneg hb6 hF
            refine Go.run qJ6_numberOfTrailingZeros_0f7a4 IJ6_ok 43 10 (79, [(0, .int (gushr (gushr ((x ^^^ (-1)) &&& (x - 1)) 4) 2)), (1, .int 7)], [.int (7 + (gushr (gushr (gushr ((x ^^^ (-1)) &&& (x - 1)) 4) 2) 1))], []) [] rfl trivial ?_
            obtain rfl := Option.some.inj hF
            exact Tr_i qJ6_numberOfTrailingZeros_0f7a4 53 rfl rfl ⟨rfl, rfl⟩
      · replace hF := gneg hb3 hF
        refine Go.run qJ6_numberOfTrailingZeros_0f7a4 IJ6_ok 27 7 (52, [(0, .int (gushr ((x ^^^ (-1)) &&& (x - 1)) 8)), (1, .int 9)], [.int 16, .int (gushr ((x ^^^ (-1)) &&& (x - 1)) 8)], []) [] rfl trivial ?_
        refine Tc_le qJ6_numberOfTrailingZeros_0f7a4 34 10 62 rfl rfl (fun hb7 => ?_) (fun hb7 => ?_)
        · replace hF := gpos hb7 hF
          refine Go.run qJ6_numberOfTrailingZeros_0f7a4 IJ6_ok 40 2 (64, [(0, .int (gushr ((x ^^^ (-1)) &&& (x - 1)) 8)), (1, .int 9)], [.int 4, .int (gushr ((x ^^^ (-1)) &&& (x - 1)) 8)], []) [] rfl trivial ?_
          refine Tc_le qJ6_numberOfTrailingZeros_0f7a4 42 10 74 rfl rfl (fun hb8 => ?_) (fun hb8 => ?_)
          · replace hF := gpos hb8 hF
            refine Go.run qJ6_numberOfTrailingZeros_0f7a4 IJ6_ok 48 5 (79, [(0, .int (gushr ((x ^^^ (-1)) &&& (x - 1)) 8)), (1, .int 9)], [.int (9 + (gushr (gushr ((x ^^^ (-1)) &&& (x - 1)) 8) 1))], []) [] rfl trivial ?_
            obtain rfl := Option.some.inj hF
            exact Tr_i qJ6_numberOfTrailingZeros_0f7a4 53 rfl rfl ⟨rfl, rfl⟩
          · replace hF := gneg hb8 hF
            refine Go.run qJ6_numberOfTrailingZeros_0f7a4 IJ6_ok 43 10 (79, [(0, .int (gushr (gushr ((x ^^^ (-1)) &&& (x - 1)) 8) 2)), (1, .int 11)], [.int (11 + (gushr (gushr (gushr ((x ^^^ (-1)) &&& (x - 1)) 8) 2) 1))], []) [] rfl trivial ?_
            obtain rfl := Option.some.inj hF
            exact Tr_i qJ6_numberOfTrailingZeros_0f7a4 53 rfl rfl ⟨rfl, rfl⟩
        · replace hF := gneg hb7 hF
          refine Go.run qJ6_numberOfTrailingZeros_0f7a4 IJ6_ok 35 7 (64, [(0, .int (gushr (gushr ((x ^^^ (-1)) &&& (x - 1)) 8) 4)), (1, .int 13)], [.int 4, .int (gushr (gushr ((x ^^^ (-1)) &&& (x - 1)) 8) 4)], []) [] rfl trivial ?_
          refine Tc_le qJ6_numberOfTrailingZeros_0f7a4 42 10 74 rfl rfl (fun hb9 => ?_) (fun hb9 => ?_)
          · replace hF := gpos hb9 hF
            refine Go.run qJ6_numberOfTrailingZeros_0f7a4 IJ6_ok 48 5 (79, [(0, .int (gushr (gushr ((x ^^^ (-1)) &&& (x - 1)) 8) 4)), (1, .int 13)], [.int (13 + (gushr (gushr (gushr ((x ^^^ (-1)) &&& (x - 1)) 8) 4) 1))], []) [] rfl trivial ?_
            obtain rfl := Option.some.inj hF
            exact Tr_i qJ6_numberOfTrailingZeros_0f7a4 53 rfl rfl ⟨rfl, rfl⟩
          · replace hF := gneg hb9 hF
            refine Go.run qJ6_numberOfTrailingZeros_0f7a4 IJ6_ok 43 10 (79, [(0, .int (gushr (gushr (gushr ((x ^^^ (-1)) &&& (x - 1)) 8) 4) 2)), (1, .int 15)], [.int (15 + (gushr (gushr (gushr (gushr ((x ^^^ (-1)) &&& (x - 1)) 8) 4) 2) 1))], []) [] rfl trivial ?_
            obtain rfl := Option.some.inj hF
            exact Tr_i qJ6_numberOfTrailingZeros_0f7a4 53 rfl rfl ⟨rfl, rfl⟩
    · replace hF := gneg hb2 hF
      refine Go.run qJ6_numberOfTrailingZeros_0f7a4 IJ6_ok 19 7 (38, [(0, .int (gushr ((x ^^^ (-1)) &&& (x - 1)) 16)), (1, .int 17)], [.int 256, .int (gushr ((x ^^^ (-1)) &&& (x - 1)) 16)], []) [] rfl trivial ?_
      refine Tc_le qJ6_numberOfTrailingZeros_0f7a4 26 11 49 rfl rfl (fun hb10 => ?_) (fun hb10 => ?_)
      · replace hF := gpos hb10 hF
        refine Go.run qJ6_numberOfTrailingZeros_0f7a4 IJ6_ok 32 2 (52, [(0, .int (gushr ((x ^^^ (-1)) &&& (x - 1)) 16)), (1, .int 17)], [.int 16, .int (gushr ((x ^^^ (-1)) &&& (x - 1)) 16)], []) [] rfl trivial ?_
        refine Tc_le qJ6_numberOfTrailingZeros_0f7a4 34 10 62 rfl rfl (fun hb11 => ?_) (fun hb11 => ?_)
        · replace hF := gpos hb11 hF
          refine Go.run qJ6_numberOfTrailingZeros_0f7a4 IJ6_ok 40 2 (64, [(0, .int (gushr ((x ^^^ (-1)) &&& (x - 1)) 16)), (1, .int 17)], [.int 4, .int (gushr ((x ^^^ (-1)) &&& (x - 1)) 16)], []) [] rfl trivial ?_
          refine Tc_le qJ6_numberOfTrailingZeros_0f7a4 42 10 74 rfl rfl (fun hb12 => ?_) (fun hb12 => ?_)
          · replace hF := gpos hb12 hF
            refine Go.run qJ6_numberOfTrailingZeros_0f7a4 IJ6_ok 48 5 (79, [(0, .int (gushr ((x ^^^ (-1)) &&& (x - 1)) 16)), (1, .int 17)], [.int (17 + (gushr (gushr ((x ^^^ (-1)) &&& (x - 1)) 16) 1))], []) [] rfl trivial ?_
            obtain rfl := Option.some.inj hF
            exact Tr_i qJ6_numberOfTrailingZeros_0f7a4 53 rfl rfl ⟨rfl, rfl⟩
          · replace hF := gneg hb12 hF
            refine Go.run qJ6_numberOfTrailingZeros_0f7a4 IJ6_ok 43 10 (79, [(0, .int (gushr (gushr ((x ^^^ (-1)) &&& (x - 1)) 16) 2)), (1, .int 19)], [.int (19 + (gushr (gushr (gushr ((x ^^^ (-1)) &&& (x - 1)) 16) 2) 1))], []) [] rfl trivial ?_
            obtain rfl := Option.some.inj hF
            exact Tr_i qJ6_numberOfTrailingZeros_0f7a4 53 rfl rfl ⟨rfl, rfl⟩
        · replace hF := gneg hb11 hF
          refine Go.run qJ6_numberOfTrailingZeros_0f7a4 IJ6_ok 35 7 (64, [(0, .int (gushr (gushr ((x ^^^ (-1)) &&& (x - 1)) 16) 4)), (1, .int 21)], [.int 4, .int (gushr (gushr ((x ^^^ (-1)) &&& (x - 1)) 16) 4)], []) [] rfl trivial ?_
          refine Tc_le qJ6_numberOfTrailingZeros_0f7a4 42 10 74 rfl rfl (fun hb13 => ?_) (fun hb13 => ?_)
          · replace hF := gpos hb13 hF
            refine Go.run qJ6_numberOfTrailingZeros_0f7a4 IJ6_ok 48 5 (79, [(0, .int (gushr (gushr ((x ^^^ (-1)) &&& (x - 1)) 16) 4)), (1, .int 21)], [.int (21 + (gushr (gushr (gushr ((x ^^^ (-1)) &&& (x - 1)) 16) 4) 1))], []) [] rfl trivial ?_
            obtain rfl := Option.some.inj hF
            exact Tr_i qJ6_numberOfTrailingZeros_0f7a4 53 rfl rfl ⟨rfl, rfl⟩
          · replace hF := gneg hb13 hF
            refine Go.run qJ6_numberOfTrailingZeros_0f7a4 IJ6_ok 43 10 (79, [(0, .int (gushr (gushr (gushr ((x ^^^ (-1)) &&& (x - 1)) 16) 4) 2)), (1, .int 23)], [.int (23 + (gushr (gushr (gushr (gushr ((x ^^^ (-1)) &&& (x - 1)) 16) 4) 2) 1))], []) [] rfl trivial ?_
            obtain rfl := Option.some.inj hF
            exact Tr_i qJ6_numberOfTrailingZeros_0f7a4 53 rfl rfl ⟨rfl, rfl⟩
      · replace hF := gneg hb10 hF
        refine Go.run qJ6_numberOfTrailingZeros_0f7a4 IJ6_ok 27 7 (52, [(0, .int (gushr (gushr ((x ^^^ (-1)) &&& (x - 1)) 16) 8)), (1, .int 25)], [.int 16, .int (gushr (gushr ((x ^^^ (-1)) &&& (x - 1)) 16) 8)], []) [] rfl trivial ?_
        refine Tc_le qJ6_numberOfTrailingZeros_0f7a4 34 10 62 rfl rfl (fun hb14 => ?_) (fun hb14 => ?_)
        · replace hF := gpos hb14 hF
          refine Go.run qJ6_numberOfTrailingZeros_0f7a4 IJ6_ok 40 2 (64, [(0, .int (gushr (gushr ((x ^^^ (-1)) &&& (x - 1)) 16) 8)), (1, .int 25)], [.int 4, .int (gushr (gushr ((x ^^^ (-1)) &&& (x - 1)) 16) 8)], []) [] rfl trivial ?_
          refine Tc_le qJ6_numberOfTrailingZeros_0f7a4 42 10 74 rfl rfl (fun hb15 => ?_) (fun hb15 => ?_)
          · replace hF := gpos hb15 hF
            refine Go.run qJ6_numberOfTrailingZeros_0f7a4 IJ6_ok 48 5 (79, [(0, .int (gushr (gushr ((x ^^^ (-1)) &&& (x - 1)) 16) 8)), (1, .int 25)], [.int (25 + (gushr (gushr (gushr ((x ^^^ (-1)) &&& (x - 1)) 16) 8) 1))], []) [] rfl trivial ?_
            obtain rfl := Option.some.inj hF
            exact Tr_i qJ6_numberOfTrailingZeros_0f7a4 53 rfl rfl ⟨rfl, rfl⟩
          · replace hF := gneg hb15 hF
            refine Go.run qJ6_numberOfTrailingZeros_0f7a4 IJ6_ok 43 10 (79, [(0, .int (gushr (gushr (gushr ((x ^^^ (-1)) &&& (x - 1)) 16) 8) 2)), (1, .int 27)], [.int (27 + (gushr (gushr (gushr (gushr ((x ^^^ (-1)) &&& (x - 1)) 16) 8) 2) 1))], []) [] rfl trivial ?_
            obtain rfl := Option.some.inj hF
            exact Tr_i qJ6_numberOfTrailingZeros_0f7a4 53 rfl rfl ⟨rfl, rfl⟩
        · replace hF := gneg hb14 hF
          refine Go.run qJ6_numberOfTrailingZeros_0f7a4 IJ6_ok 35 7 (64, [(0, .int (gushr (gushr (gushr ((x ^^^ (-1)) &&& (x - 1)) 16) 8) 4)), (1, .int 29)], [.int 4, .int (gushr (gushr (gushr ((x ^^^ (-1)) &&& (x - 1)) 16) 8) 4)], []) [] rfl trivial ?_
          refine Tc_le qJ6_numberOfTrailingZeros_0f7a4 42 10 74 rfl rfl (fun hb16 => ?_) (fun hb16 => ?_)
          · replace hF := gpos hb16 hF
            refine Go.run qJ6_numberOfTrailingZeros_0f7a4 IJ6_ok 48 5 (79, [(0, .int (gushr (gushr (gushr ((x ^^^ (-1)) &&& (x - 1)) 16) 8) 4)), (1, .int 29)], [.int (29 + (gushr (gushr (gushr (gushr ((x ^^^ (-1)) &&& (x - 1)) 16) 8) 4) 1))], []) [] rfl trivial ?_
            obtain rfl := Option.some.inj hF
            exact Tr_i qJ6_numberOfTrailingZeros_0f7a4 53 rfl rfl ⟨rfl, rfl⟩
          · replace hF := gneg hb16 hF
            refine Go.run qJ6_numberOfTrailingZeros_0f7a4 IJ6_ok 43 10 (79, [(0, .int (gushr (gushr (gushr (gushr ((x ^^^ (-1)) &&& (x - 1)) 16) 8) 4) 2)), (1, .int 31)], [.int (31 + (gushr (gushr (gushr (gushr (gushr ((x ^^^ (-1)) &&& (x - 1)) 16) 8) 4) 2) 1))], []) [] rfl trivial ?_
            obtain rfl := Option.some.inj hF
            exact Tr_i qJ6_numberOfTrailingZeros_0f7a4 53 rfl rfl ⟨rfl, rfl⟩
  · replace hF := gneg hb1 hF
    refine Go.run qJ6_numberOfTrailingZeros_0f7a4 IJ6_ok 10 3 (16, [(0, .int ((x ^^^ (-1)) &&& (x - 1)))], [.int (((x ^^^ (-1)) &&& (x - 1)) &&& 32)], []) [] rfl trivial ?_
    obtain rfl := Option.some.inj hF
    exact Tr_i qJ6_numberOfTrailingZeros_0f7a4 13 rfl rfl ⟨rfl, rfl⟩
def R_bitCount : Room := { frames := 0, cells := 0, slots := 0, locals := 0 }
noncomputable def F_bitCount (x : Int32) : Option Int32 :=
  some ((((((((x - ((gushr x 1) &&& 1431655765)) &&& 858993459) + ((gushr (x - ((gushr x 1) &&& 1431655765)) 2) &&& 858993459)) + (gushr (((x - ((gushr x 1) &&& 1431655765)) &&& 858993459) + ((gushr (x - ((gushr x 1) &&& 1431655765)) 2) &&& 858993459)) 4)) &&& 252645135) + (gushr (((((x - ((gushr x 1) &&& 1431655765)) &&& 858993459) + ((gushr (x - ((gushr x 1) &&& 1431655765)) 2) &&& 858993459)) + (gushr (((x - ((gushr x 1) &&& 1431655765)) &&& 858993459) + ((gushr (x - ((gushr x 1) &&& 1431655765)) 2) &&& 858993459)) 4)) &&& 252645135) 8)) + (gushr ((((((x - ((gushr x 1) &&& 1431655765)) &&& 858993459) + ((gushr (x - ((gushr x 1) &&& 1431655765)) 2) &&& 858993459)) + (gushr (((x - ((gushr x 1) &&& 1431655765)) &&& 858993459) + ((gushr (x - ((gushr x 1) &&& 1431655765)) 2) &&& 858993459)) 4)) &&& 252645135) + (gushr (((((x - ((gushr x 1) &&& 1431655765)) &&& 858993459) + ((gushr (x - ((gushr x 1) &&& 1431655765)) 2) &&& 858993459)) + (gushr (((x - ((gushr x 1) &&& 1431655765)) &&& 858993459) + ((gushr (x - ((gushr x 1) &&& 1431655765)) 2) &&& 858993459)) 4)) &&& 252645135) 8)) 16)) &&& 63)
set_option maxRecDepth 100000 in
set_option maxHeartbeats 4000000 in
theorem c_bitCount (x : Int32) (rr : Int32) (hF : F_bitCount x = some rr) : Cd mJ6_bitCount_0f7a4 R_bitCount [.int x] [] (some (.int rr)) [] := by
  unfold F_bitCount at hF
  refine Ct.of rfl (Nat.le_of_ble_eq_true rfl) ?_
  refine Go.run qJ6_bitCount_0f7a4 IJ6_ok 0 41 (52, [(0, .int (((((((x - ((gushr x 1) &&& 1431655765)) &&& 858993459) + ((gushr (x - ((gushr x 1) &&& 1431655765)) 2) &&& 858993459)) + (gushr (((x - ((gushr x 1) &&& 1431655765)) &&& 858993459) + ((gushr (x - ((gushr x 1) &&& 1431655765)) 2) &&& 858993459)) 4)) &&& 252645135) + (gushr (((((x - ((gushr x 1) &&& 1431655765)) &&& 858993459) + ((gushr (x - ((gushr x 1) &&& 1431655765)) 2) &&& 858993459)) + (gushr (((x - ((gushr x 1) &&& 1431655765)) &&& 858993459) + ((gushr (x - ((gushr x 1) &&& 1431655765)) 2) &&& 858993459)) 4)) &&& 252645135) 8)) + (gushr ((((((x - ((gushr x 1) &&& 1431655765)) &&& 858993459) + ((gushr (x - ((gushr x 1) &&& 1431655765)) 2) &&& 858993459)) + (gushr (((x - ((gushr x 1) &&& 1431655765)) &&& 858993459) + ((gushr (x - ((gushr x 1) &&& 1431655765)) 2) &&& 858993459)) 4)) &&& 252645135) + (gushr (((((x - ((gushr x 1) &&& 1431655765)) &&& 858993459) + ((gushr (x - ((gushr x 1) &&& 1431655765)) 2) &&& 858993459)) + (gushr (((x - ((gushr x 1) &&& 1431655765)) &&& 858993459) + ((gushr (x - ((gushr x 1) &&& 1431655765)) 2) &&& 858993459)) 4)) &&& 252645135) 8)) 16)))], [.int ((((((((x - ((gushr x 1) &&& 1431655765)) &&& 858993459) + ((gushr (x - ((gushr x 1) &&& 1431655765)) 2) &&& 858993459)) + (gushr (((x - ((gushr x 1) &&& 1431655765)) &&& 858993459) + ((gushr (x - ((gushr x 1) &&& 1431655765)) 2) &&& 858993459)) 4)) &&& 252645135) + (gushr (((((x - ((gushr x 1) &&& 1431655765)) &&& 858993459) + ((gushr (x - ((gushr x 1) &&& 1431655765)) 2) &&& 858993459)) + (gushr (((x - ((gushr x 1) &&& 1431655765)) &&& 858993459) + ((gushr (x - ((gushr x 1) &&& 1431655765)) 2) &&& 858993459)) 4)) &&& 252645135) 8)) + (gushr ((((((x - ((gushr x 1) &&& 1431655765)) &&& 858993459) + ((gushr (x - ((gushr x 1) &&& 1431655765)) 2) &&& 858993459)) + (gushr (((x - ((gushr x 1) &&& 1431655765)) &&& 858993459) + ((gushr (x - ((gushr x 1) &&& 1431655765)) 2) &&& 858993459)) 4)) &&& 252645135) + (gushr (((((x - ((gushr x 1) &&& 1431655765)) &&& 858993459) + ((gushr (x - ((gushr x 1) &&& 1431655765)) 2) &&& 858993459)) + (gushr (((x - ((gushr x 1) &&& 1431655765)) &&& 858993459) + ((gushr (x - ((gushr x 1) &&& 1431655765)) 2) &&& 858993459)) 4)) &&& 252645135) 8)) 16)) &&& 63)], []) [] rfl trivial ?_
  obtain rfl := Option.some.inj hF
  exact Tr_i qJ6_bitCount_0f7a4 41 rfl rfl ⟨rfl, rfl⟩
def R_X8_isPoint : Room := { frames := 0, cells := 0, slots := 0, locals := 0 }
noncomputable def F_X8_isPoint (x : Int32) (y : Int32) : Option Int32 :=
  if x < 0 then (some 0) else (if 21 ≤ x then (some 0) else (if y < 0 then (some 0) else (if 21 ≤ y then (some 0) else (some 1))))
set_option maxRecDepth 100000 in
set_option maxHeartbeats 4000000 in
theorem c_X8_isPoint (x : Int32) (y : Int32) (rr : Int32) (hF : F_X8_isPoint x y = some rr) : Cd mX8_isPoint R_X8_isPoint [.int x, .int y] [] (some (.int rr)) [] := by
  unfold F_X8_isPoint at hF
  refine Ct.of rfl (Nat.le_of_ble_eq_true rfl) ?_
  refine Go.run qX8_isPoint IX8_ok 0 1 (1, [(0, .int x), (1, .int y)], [.int x], []) [] rfl trivial ?_
  refine Ti_lt qX8_isPoint 1 23 24 rfl rfl (fun hb1 => ?_) (fun hb1 => ?_)
  · replace hF := gpos hb1 hF
    refine Go.run qX8_isPoint IX8_ok 12 1 (25, [(0, .int x), (1, .int y)], [.int 0], []) [] rfl trivial ?_
    obtain rfl := Option.some.inj hF
    exact Tr_z qX8_isPoint 13 rfl rfl (by decide) ⟨rfl, rfl⟩
  · replace hF := gneg hb1 hF
    refine Go.run qX8_isPoint IX8_ok 2 2 (7, [(0, .int x), (1, .int y)], [.int 21, .int x], []) [] rfl trivial ?_
    refine Tc_ge qX8_isPoint 4 17 24 rfl rfl (fun hb2 => ?_) (fun hb2 => ?_)
    · replace hF := gpos hb2 hF
      refine Go.run qX8_isPoint IX8_ok 12 1 (25, [(0, .int x), (1, .int y)], [.int 0], []) [] rfl trivial ?_
      obtain rfl := Option.some.inj hF
      exact Tr_z qX8_isPoint 13 rfl rfl (by decide) ⟨rfl, rfl⟩
    · replace hF := gneg hb2 hF
      refine Go.run qX8_isPoint IX8_ok 5 1 (11, [(0, .int x), (1, .int y)], [.int y], []) [] rfl trivial ?_
      refine Ti_lt qX8_isPoint 6 13 24 rfl rfl (fun hb3 => ?_) (fun hb3 => ?_)
      · replace hF := gpos hb3 hF
        refine Go.run qX8_isPoint IX8_ok 12 1 (25, [(0, .int x), (1, .int y)], [.int 0], []) [] rfl trivial ?_
        obtain rfl := Option.some.inj hF
        exact Tr_z qX8_isPoint 13 rfl rfl (by decide) ⟨rfl, rfl⟩
      · replace hF := gneg hb3 hF
        refine Go.run qX8_isPoint IX8_ok 7 2 (17, [(0, .int x), (1, .int y)], [.int 21, .int y], []) [] rfl trivial ?_
        refine Tc_ge qX8_isPoint 9 7 24 rfl rfl (fun hb4 => ?_) (fun hb4 => ?_)
        · replace hF := gpos hb4 hF
          refine Go.run qX8_isPoint IX8_ok 12 1 (25, [(0, .int x), (1, .int y)], [.int 0], []) [] rfl trivial ?_
          obtain rfl := Option.some.inj hF
          exact Tr_z qX8_isPoint 13 rfl rfl (by decide) ⟨rfl, rfl⟩
        · replace hF := gneg hb4 hF
          refine Go.run qX8_isPoint IX8_ok 10 2 (25, [(0, .int x), (1, .int y)], [.int 1], []) [] rfl trivial ?_
          obtain rfl := Option.some.inj hF
          exact Tr_z qX8_isPoint 13 rfl rfl (by decide) ⟨rfl, rfl⟩
def R_X8_isArm : Room := { frames := 0, cells := 0, slots := 0, locals := 0 }
noncomputable def F_X8_isArm (dx : Int64) (dy : Int64) : Option Int32 :=
  if (lg_cmp dx (-9)) < 0 then (some 0) else (if 0 < (lg_cmp dx 9) then (some 0) else (if (lg_cmp dy (-9)) < 0 then (some 0) else (if 0 < (lg_cmp dy 9) then (some 0) else (if (lg_cmp dx 0) = 0 then (if (lg_cmp dy 0) = 0 then (some 0) else (some 1)) else (some 1)))))
set_option maxRecDepth 100000 in
set_option maxHeartbeats 4000000 in
theorem c_X8_isArm (dx : Int64) (dy : Int64) (rr : Int32) (hF : F_X8_isArm dx dy = some rr) : Cd mX8_isArm R_X8_isArm [.long dx, .long dy] [] (some (.int rr)) [] := by
  unfold F_X8_isArm at hF
  refine Ct.of rfl (Nat.le_of_ble_eq_true rfl) ?_
  refine Go.run qX8_isArm IX8_ok 0 3 (5, [(0, .long dx), (2, .long dy)], [.int (lg_cmp dx (-9))], []) [] rfl trivial ?_
  refine Ti_lt qX8_isArm 3 31 36 rfl rfl (fun hb1 => ?_) (fun hb1 => ?_)
  · replace hF := gpos hb1 hF
    refine Go.run qX8_isArm IX8_ok 18 3 (41, [(4, .int 0), (0, .long dx), (2, .long dy)], [.int 0], []) [] rfl trivial ?_
    refine Ti_eq qX8_isArm 21 19 60 rfl rfl (fun _ => ?_) (fun hb => absurd (by decide) hb)
    refine Go.run qX8_isArm IX8_ok 32 1 (61, [(4, .int 0), (0, .long dx), (2, .long dy)], [.int 0], []) [] rfl trivial ?_
    obtain rfl := Option.some.inj hF
    exact Tr_z qX8_isArm 33 rfl rfl (by decide) ⟨rfl, rfl⟩
  · replace hF := gneg hb1 hF
    refine Go.run qX8_isArm IX8_ok 4 3 (13, [(0, .long dx), (2, .long dy)], [.int (lg_cmp dx 9)], []) [] rfl trivial ?_
    refine Ti_gt qX8_isArm 7 23 36 rfl rfl (fun hb2 => ?_) (fun hb2 => ?_)
    · replace hF := gpos hb2 hF
      refine Go.run qX8_isArm IX8_ok 18 3 (41, [(4, .int 0), (0, .long dx), (2, .long dy)], [.int 0], []) [] rfl trivial ?_
      refine Ti_eq qX8_isArm 21 19 60 rfl rfl (fun _ => ?_) (fun hb => absurd (by decide) hb)
      refine Go.run qX8_isArm IX8_ok 32 1 (61, [(4, .int 0), (0, .long dx), (2, .long dy)], [.int 0], []) [] rfl trivial ?_
      obtain rfl := Option.some.inj hF
      exact Tr_z qX8_isArm 33 rfl rfl (by decide) ⟨rfl, rfl⟩
    · replace hF := gneg hb2 hF
      refine Go.run qX8_isArm IX8_ok 8 3 (21, [(0, .long dx), (2, .long dy)], [.int (lg_cmp dy (-9))], []) [] rfl trivial ?_
      refine Ti_lt qX8_isArm 11 15 36 rfl rfl (fun hb3 => ?_) (fun hb3 => ?_)
      · replace hF := gpos hb3 hF
        refine Go.run qX8_isArm IX8_ok 18 3 (41, [(4, .int 0), (0, .long dx), (2, .long dy)], [.int 0], []) [] rfl trivial ?_
        refine Ti_eq qX8_isArm 21 19 60 rfl rfl (fun _ => ?_) (fun hb => absurd (by decide) hb)
        refine Go.run qX8_isArm IX8_ok 32 1 (61, [(4, .int 0), (0, .long dx), (2, .long dy)], [.int 0], []) [] rfl trivial ?_
        obtain rfl := Option.some.inj hF
        exact Tr_z qX8_isArm 33 rfl rfl (by decide) ⟨rfl, rfl⟩
      · replace hF := gneg hb3 hF
        refine Go.run qX8_isArm IX8_ok 12 3 (29, [(0, .long dx), (2, .long dy)], [.int (lg_cmp dy 9)], []) [] rfl trivial ?_
        refine Ti_gt qX8_isArm 15 7 36 rfl rfl (fun hb4 => ?_) (fun hb4 => ?_)
        · replace hF := gpos hb4 hF
          refine Go.run qX8_isArm IX8_ok 18 3 (41, [(4, .int 0), (0, .long dx), (2, .long dy)], [.int 0], []) [] rfl trivial ?_
          refine Ti_eq qX8_isArm 21 19 60 rfl rfl (fun _ => ?_) (fun hb => absurd (by decide) hb)
          refine Go.run qX8_isArm IX8_ok 32 1 (61, [(4, .int 0), (0, .long dx), (2, .long dy)], [.int 0], []) [] rfl trivial ?_
          obtain rfl := Option.some.inj hF
          exact Tr_z qX8_isArm 33 rfl rfl (by decide) ⟨rfl, rfl⟩
        · replace hF := gneg hb4 hF
          refine Go.run qX8_isArm IX8_ok 16 2 (37, [(0, .long dx), (2, .long dy)], [.int 1], []) [] rfl trivial ?_
          refine Go.run qX8_isArm IX8_ok 19 2 (41, [(4, .int 1), (0, .long dx), (2, .long dy)], [.int 1], []) [] rfl trivial ?_
          refine Ti_eq qX8_isArm 21 19 60 rfl rfl (fun hb => absurd hb (by decide)) (fun _ => ?_)
          refine Go.run qX8_isArm IX8_ok 22 3 (47, [(4, .int 1), (0, .long dx), (2, .long dy)], [.int (lg_cmp dx 0)], []) [] rfl trivial ?_
          refine Ti_ne qX8_isArm 25 9 56 rfl rfl (fun hb5 => ?_) (fun hb5 => ?_)
          · replace hF := gneg hb5 hF
            refine Go.run qX8_isArm IX8_ok 30 2 (61, [(4, .int 1), (0, .long dx), (2, .long dy)], [.int 1], []) [] rfl trivial ?_
            obtain rfl := Option.some.inj hF
            exact Tr_z qX8_isArm 33 rfl rfl (by decide) ⟨rfl, rfl⟩
          · replace hF := gpos hb5 hF
            refine Go.run qX8_isArm IX8_ok 26 3 (53, [(4, .int 1), (0, .long dx), (2, .long dy)], [.int (lg_cmp dy 0)], []) [] rfl trivial ?_
            refine Ti_eq qX8_isArm 29 7 60 rfl rfl (fun hb6 => ?_) (fun hb6 => ?_)
            · replace hF := gpos hb6 hF
              refine Go.run qX8_isArm IX8_ok 32 1 (61, [(4, .int 1), (0, .long dx), (2, .long dy)], [.int 0], []) [] rfl trivial ?_
              obtain rfl := Option.some.inj hF
              exact Tr_z qX8_isArm 33 rfl rfl (by decide) ⟨rfl, rfl⟩
            · replace hF := gneg hb6 hF
              refine Go.run qX8_isArm IX8_ok 30 2 (61, [(4, .int 1), (0, .long dx), (2, .long dy)], [.int 1], []) [] rfl trivial ?_
              obtain rfl := Option.some.inj hF
              exact Tr_z qX8_isArm 33 rfl rfl (by decide) ⟨rfl, rfl⟩
def R_X8_isTick : Room := { frames := 0, cells := 0, slots := 0, locals := 0 }
noncomputable def F_X8_isTick (t : Int32) : Option Int32 :=
  if t < 0 then (some 0) else (if 60 < t then (some 0) else (some 1))
set_option maxRecDepth 100000 in
set_option maxHeartbeats 4000000 in
theorem c_X8_isTick (t : Int32) (rr : Int32) (hF : F_X8_isTick t = some rr) : Cd mX8_isTick R_X8_isTick [.int t] [] (some (.int rr)) [] := by
  unfold F_X8_isTick at hF
  refine Ct.of rfl (Nat.le_of_ble_eq_true rfl) ?_
  refine Go.run qX8_isTick IX8_ok 0 1 (1, [(0, .int t)], [.int t], []) [] rfl trivial ?_
  refine Ti_lt qX8_isTick 1 13 14 rfl rfl (fun hb1 => ?_) (fun hb1 => ?_)
  · replace hF := gpos hb1 hF
    refine Go.run qX8_isTick IX8_ok 7 1 (15, [(0, .int t)], [.int 0], []) [] rfl trivial ?_
    obtain rfl := Option.some.inj hF
    exact Tr_z qX8_isTick 8 rfl rfl (by decide) ⟨rfl, rfl⟩
  · replace hF := gneg hb1 hF
    refine Go.run qX8_isTick IX8_ok 2 2 (7, [(0, .int t)], [.int 60, .int t], []) [] rfl trivial ?_
    refine Tc_gt qX8_isTick 4 7 14 rfl rfl (fun hb2 => ?_) (fun hb2 => ?_)
    · replace hF := gpos hb2 hF
      refine Go.run qX8_isTick IX8_ok 7 1 (15, [(0, .int t)], [.int 0], []) [] rfl trivial ?_
      obtain rfl := Option.some.inj hF
      exact Tr_z qX8_isTick 8 rfl rfl (by decide) ⟨rfl, rfl⟩
    · replace hF := gneg hb2 hF
      refine Go.run qX8_isTick IX8_ok 5 2 (15, [(0, .int t)], [.int 1], []) [] rfl trivial ?_
      obtain rfl := Option.some.inj hF
      exact Tr_z qX8_isTick 8 rfl rfl (by decide) ⟨rfl, rfl⟩
def R_X8_isLane : Room := { frames := 0, cells := 0, slots := 0, locals := 0 }
noncomputable def F_X8_isLane (t : Int32) : Option Int32 :=
  if t < 0 then (some 0) else (if 3 ≤ t then (some 0) else (some 1))
set_option maxRecDepth 100000 in
set_option maxHeartbeats 4000000 in
theorem c_X8_isLane (t : Int32) (rr : Int32) (hF : F_X8_isLane t = some rr) : Cd mX8_isLane R_X8_isLane [.int t] [] (some (.int rr)) [] := by
  unfold F_X8_isLane at hF
  refine Ct.of rfl (Nat.le_of_ble_eq_true rfl) ?_
  refine Go.run qX8_isLane IX8_ok 0 1 (1, [(0, .int t)], [.int t], []) [] rfl trivial ?_
  refine Ti_lt qX8_isLane 1 12 13 rfl rfl (fun hb1 => ?_) (fun hb1 => ?_)
  · replace hF := gpos hb1 hF
    refine Go.run qX8_isLane IX8_ok 7 1 (14, [(0, .int t)], [.int 0], []) [] rfl trivial ?_
    obtain rfl := Option.some.inj hF
    exact Tr_z qX8_isLane 8 rfl rfl (by decide) ⟨rfl, rfl⟩
  · replace hF := gneg hb1 hF
    refine Go.run qX8_isLane IX8_ok 2 2 (6, [(0, .int t)], [.int 3, .int t], []) [] rfl trivial ?_
    refine Tc_ge qX8_isLane 4 7 13 rfl rfl (fun hb2 => ?_) (fun hb2 => ?_)
    · replace hF := gpos hb2 hF
      refine Go.run qX8_isLane IX8_ok 7 1 (14, [(0, .int t)], [.int 0], []) [] rfl trivial ?_
      obtain rfl := Option.some.inj hF
      exact Tr_z qX8_isLane 8 rfl rfl (by decide) ⟨rfl, rfl⟩
    · replace hF := gneg hb2 hF
      refine Go.run qX8_isLane IX8_ok 5 2 (14, [(0, .int t)], [.int 1], []) [] rfl trivial ?_
      obtain rfl := Option.some.inj hF
      exact Tr_z qX8_isLane 8 rfl rfl (by decide) ⟨rfl, rfl⟩
def R_X8_isOne : Room := { frames := 1, cells := 0, slots := 0, locals := 20 }
noncomputable def F_X8_isOne (b : Int32) : Option Int32 :=
  (F_bitCount b).bind fun r1 => if r1 = 1 then (some 1) else (some 0)
set_option maxRecDepth 100000 in
set_option maxHeartbeats 4000000 in
theorem c_X8_isOne (b : Int32) (rr : Int32) (hF : F_X8_isOne b = some rr) : Cd mX8_isOne R_X8_isOne [.int b] [] (some (.int rr)) [] := by
  unfold F_X8_isOne at hF
  refine Ct.of rfl (Nat.le_of_ble_eq_true rfl) ?_
  refine Go.run qX8_isOne IX8_ok 0 1 (1, [(0, .int b)], [.int b], []) [] rfl trivial ?_
  obtain ⟨r1, h2, hF⟩ := gbind hF
  refine Tk_s qX8_isOne 1 rfl (c_bitCount b r1 h2) kX8_272 (gr []) [] rfl rfl rfl rfl ⟨rfl, rfl, by decide, by decide⟩ [] rfl (Nat.le_of_ble_eq_true rfl) [.int r1] rfl [] rfl ?_
  refine Go.run qX8_isOne IX8_ok 2 1 (5, [(0, .int b)], [.int 1, .int r1], []) [] rfl trivial ?_
  refine Tc_ne qX8_isOne 3 7 12 rfl rfl (fun hb3 => ?_) (fun hb3 => ?_)
  · replace hF := gneg hb3 hF
    refine Go.run qX8_isOne IX8_ok 6 1 (13, [(0, .int b)], [.int 0], []) [] rfl trivial ?_
    obtain rfl := Option.some.inj hF
    exact Tr_z qX8_isOne 7 rfl rfl (by decide) ⟨rfl, rfl⟩
  · replace hF := gpos hb3 hF
    refine Go.run qX8_isOne IX8_ok 4 2 (13, [(0, .int b)], [.int 1], []) [] rfl trivial ?_
    obtain rfl := Option.some.inj hF
    exact Tr_z qX8_isOne 7 rfl rfl (by decide) ⟨rfl, rfl⟩
def R_X8_fits : Room := { frames := 0, cells := 0, slots := 0, locals := 0 }
noncomputable def F_X8_fits (c : Int32) (v : Int32) : Option Int32 :=
  if c = 0 then (if v < 0 then (some 0) else (if 21 ≤ v then (some 0) else (some 1))) else (if c = 1 then (if v < 0 then (some 0) else (if 21 ≤ v then (some 0) else (some 1))) else (if c = 2 then (if v < 0 then (some 0) else (if 5 < v then (some 0) else (some 1))) else (if c = 3 then (if v < (-3) then (some 0) else (if 3 < v then (some 0) else (some 1))) else (if c = 4 then (if v < (-3) then (some 0) else (if 3 < v then (some 0) else (some 1))) else (some 0)))))
set_option maxRecDepth 100000 in
set_option maxHeartbeats 4000000 in
theorem c_X8_fits (c : Int32) (v : Int32) (rr : Int32) (hF : F_X8_fits c v = some rr) : Cd mX8_fits R_X8_fits [.int c, .int v] [] (some (.int rr)) [] := by
  unfold F_X8_fits at hF
  refine Ct.of rfl (Nat.le_of_ble_eq_true rfl) ?_
  refine Go.run qX8_fits IX8_ok 0 1 (1, [(0, .int c), (1, .int v)], [.int c], []) [] rfl trivial ?_
  refine Go.tswN tX8_fits_1 84 rfl [36, 36, 52, 67, 67] rfl rfl ?_ ?_
  · intro hs
    replace hF := gneg (fun e => by rw [e] at hs; exact absurd hs (by decide)) hF
    replace hF := gneg (fun e => by rw [e] at hs; exact absurd hs (by decide)) hF
    replace hF := gneg (fun e => by rw [e] at hs; exact absurd hs (by decide)) hF
    replace hF := gneg (fun e => by rw [e] at hs; exact absurd hs (by decide)) hF
    replace hF := gneg (fun e => by rw [e] at hs; exact absurd hs (by decide)) hF
    refine Go.run qX8_fits IX8_ok 29 1 (85, [(0, .int c), (1, .int v)], [.int 0], []) [] rfl trivial ?_
    obtain rfl := Option.some.inj hF
    exact Tr_z qX8_fits 30 rfl rfl (by decide) ⟨rfl, rfl⟩
  · intro j t hj hx
    rcases j with _ | _ | _ | _ | _ | j
    · obtain rfl : 36 = t := Option.some.inj hj
      have hx : c = 0 := hx
      replace hF := gpos hx hF
      refine Go.run qX8_fits IX8_ok 1 1 (37, [(0, .int c), (1, .int v)], [.int v], []) [] rfl trivial ?_
      refine Ti_lt qX8_fits 2 13 50 rfl rfl (fun hb1 => ?_) (fun hb1 => ?_)
      · replace hF := gpos hb1 hF
        refine Go.run qX8_fits IX8_ok 8 1 (51, [(0, .int c), (1, .int v)], [.int 0], []) [] rfl trivial ?_
        obtain rfl := Option.some.inj hF
        exact Tr_z qX8_fits 9 rfl rfl (by decide) ⟨rfl, rfl⟩
      · replace hF := gneg hb1 hF
        refine Go.run qX8_fits IX8_ok 3 2 (43, [(0, .int c), (1, .int v)], [.int 21, .int v], []) [] rfl trivial ?_
        refine Tc_ge qX8_fits 5 7 50 rfl rfl (fun hb2 => ?_) (fun hb2 => ?_)
        · replace hF := gpos hb2 hF
          refine Go.run qX8_fits IX8_ok 8 1 (51, [(0, .int c), (1, .int v)], [.int 0], []) [] rfl trivial ?_
          obtain rfl := Option.some.inj hF
          exact Tr_z qX8_fits 9 rfl rfl (by decide) ⟨rfl, rfl⟩
        · replace hF := gneg hb2 hF
          refine Go.run qX8_fits IX8_ok 6 2 (51, [(0, .int c), (1, .int v)], [.int 1], []) [] rfl trivial ?_
          obtain rfl := Option.some.inj hF
          exact Tr_z qX8_fits 9 rfl rfl (by decide) ⟨rfl, rfl⟩
    · obtain rfl : 36 = t := Option.some.inj hj
      have hx : c = 1 := hx
      replace hF := gneg (gsw_ne hx (by decide)) hF
      replace hF := gpos hx hF
      refine Go.run qX8_fits IX8_ok 1 1 (37, [(0, .int c), (1, .int v)], [.int v], []) [] rfl trivial ?_
      refine Ti_lt qX8_fits 2 13 50 rfl rfl (fun hb3 => ?_) (fun hb3 => ?_)
      · replace hF := gpos hb3 hF
        refine Go.run qX8_fits IX8_ok 8 1 (51, [(0, .int c), (1, .int v)], [.int 0], []) [] rfl trivial ?_
        obtain rfl := Option.some.inj hF
        exact Tr_z qX8_fits 9 rfl rfl (by decide) ⟨rfl, rfl⟩
      · replace hF := gneg hb3 hF
        refine Go.run qX8_fits IX8_ok 3 2 (43, [(0, .int c), (1, .int v)], [.int 21, .int v], []) [] rfl trivial ?_
        refine Tc_ge qX8_fits 5 7 50 rfl rfl (fun hb4 => ?_) (fun hb4 => ?_)
        · replace hF := gpos hb4 hF
          refine Go.run qX8_fits IX8_ok 8 1 (51, [(0, .int c), (1, .int v)], [.int 0], []) [] rfl trivial ?_
          obtain rfl := Option.some.inj hF
          exact Tr_z qX8_fits 9 rfl rfl (by decide) ⟨rfl, rfl⟩
        · replace hF := gneg hb4 hF
          refine Go.run qX8_fits IX8_ok 6 2 (51, [(0, .int c), (1, .int v)], [.int 1], []) [] rfl trivial ?_
          obtain rfl := Option.some.inj hF
          exact Tr_z qX8_fits 9 rfl rfl (by decide) ⟨rfl, rfl⟩
    · obtain rfl : 52 = t := Option.some.inj hj
      have hx : c = 2 := hx
      replace hF := gneg (gsw_ne hx (by decide)) hF
      replace hF := gneg (gsw_ne hx (by decide)) hF
      replace hF := gpos hx hF
      refine Go.run qX8_fits IX8_ok 10 1 (53, [(0, .int c), (1, .int v)], [.int v], []) [] rfl trivial ?_
      refine Ti_lt qX8_fits 11 12 65 rfl rfl (fun hb5 => ?_) (fun hb5 => ?_)
      · replace hF := gpos hb5 hF
        refine Go.run qX8_fits IX8_ok 17 1 (66, [(0, .int c), (1, .int v)], [.int 0], []) [] rfl trivial ?_
        obtain rfl := Option.some.inj hF
        exact Tr_z qX8_fits 18 rfl rfl (by decide) ⟨rfl, rfl⟩
      · replace hF := gneg hb5 hF
        refine Go.run qX8_fits IX8_ok 12 2 (58, [(0, .int c), (1, .int v)], [.int 5, .int v], []) [] rfl trivial ?_
        refine Tc_gt qX8_fits 14 7 65 rfl rfl (fun hb6 => ?_) (fun hb6 => ?_)
        · replace hF := gpos hb6 hF
          refine Go.run qX8_fits IX8_ok 17 1 (66, [(0, .int c), (1, .int v)], [.int 0], []) [] rfl trivial ?_
          obtain rfl := Option.some.inj hF
          exact Tr_z qX8_fits 18 rfl rfl (by decide) ⟨rfl, rfl⟩
        · replace hF := gneg hb6 hF
          refine Go.run qX8_fits IX8_ok 15 2 (66, [(0, .int c), (1, .int v)], [.int 1], []) [] rfl trivial ?_
          obtain rfl := Option.some.inj hF
          exact Tr_z qX8_fits 18 rfl rfl (by decide) ⟨rfl, rfl⟩
    · obtain rfl : 67 = t := Option.some.inj hj
      have hx : c = 3 := hx
      replace hF := gneg (gsw_ne hx (by decide)) hF
      replace hF := gneg (gsw_ne hx (by decide)) hF
      replace hF := gneg (gsw_ne hx (by decide)) hF
      replace hF := gpos hx hF
      refine Go.run qX8_fits IX8_ok 19 2 (70, [(0, .int c), (1, .int v)], [.int (-3), .int v], []) [] rfl trivial ?_
      refine Tc_lt qX8_fits 21 12 82 rfl rfl (fun hb7 => ?_) (fun hb7 => ?_)
      · replace hF := gpos hb7 hF
        refine Go.run qX8_fits IX8_ok 27 1 (83, [(0, .int c), (1, .int v)], [.int 0], []) [] rfl trivial ?_
        obtain rfl := Option.some.inj hF
        exact Tr_z qX8_fits 28 rfl rfl (by decide) ⟨rfl, rfl⟩
      · replace hF := gneg hb7 hF
        refine Go.run qX8_fits IX8_ok 22 2 (75, [(0, .int c), (1, .int v)], [.int 3, .int v], []) [] rfl trivial ?_
        refine Tc_gt qX8_fits 24 7 82 rfl rfl (fun hb8 => ?_) (fun hb8 => ?_)
        · replace hF := gpos hb8 hF
          refine Go.run qX8_fits IX8_ok 27 1 (83, [(0, .int c), (1, .int v)], [.int 0], []) [] rfl trivial ?_
          obtain rfl := Option.some.inj hF
          exact Tr_z qX8_fits 28 rfl rfl (by decide) ⟨rfl, rfl⟩
        · replace hF := gneg hb8 hF
          refine Go.run qX8_fits IX8_ok 25 2 (83, [(0, .int c), (1, .int v)], [.int 1], []) [] rfl trivial ?_
          obtain rfl := Option.some.inj hF
          exact Tr_z qX8_fits 28 rfl rfl (by decide) ⟨rfl, rfl⟩
    · obtain rfl : 67 = t := Option.some.inj hj
      have hx : c = 4 := hx
      replace hF := gneg (gsw_ne hx (by decide)) hF
      replace hF := gneg (gsw_ne hx (by decide)) hF
      replace hF := gneg (gsw_ne hx (by decide)) hF
      replace hF := gneg (gsw_ne hx (by decide)) hF
      replace hF := gpos hx hF
      refine Go.run qX8_fits IX8_ok 19 2 (70, [(0, .int c), (1, .int v)], [.int (-3), .int v], []) [] rfl trivial ?_
      refine Tc_lt qX8_fits 21 12 82 rfl rfl (fun hb9 => ?_) (fun hb9 => ?_)
      · replace hF := gpos hb9 hF
        refine Go.run qX8_fits IX8_ok 27 1 (83, [(0, .int c), (1, .int v)], [.int 0], []) [] rfl trivial ?_
        obtain rfl := Option.some.inj hF
        exact Tr_z qX8_fits 28 rfl rfl (by decide) ⟨rfl, rfl⟩
      · replace hF := gneg hb9 hF
        refine Go.run qX8_fits IX8_ok 22 2 (75, [(0, .int c), (1, .int v)], [.int 3, .int v], []) [] rfl trivial ?_
        refine Tc_gt qX8_fits 24 7 82 rfl rfl (fun hb10 => ?_) (fun hb10 => ?_)
        · replace hF := gpos hb10 hF
          refine Go.run qX8_fits IX8_ok 27 1 (83, [(0, .int c), (1, .int v)], [.int 0], []) [] rfl trivial ?_
          obtain rfl := Option.some.inj hF
          exact Tr_z qX8_fits 28 rfl rfl (by decide) ⟨rfl, rfl⟩
        · replace hF := gneg hb10 hF
          refine Go.run qX8_fits IX8_ok 25 2 (83, [(0, .int c), (1, .int v)], [.int 1], []) [] rfl trivial ?_
          obtain rfl := Option.some.inj hF
          exact Tr_z qX8_fits 28 rfl rfl (by decide) ⟨rfl, rfl⟩
    · cases hj
def R_X8_addThing : Room := { frames := 2, cells := 0, slots := 0, locals := 47 }
noncomputable def F_X8_addThing (sz : Int32) (f : Nat → Int32) (x : Int32) (y : Int32) (br : Int32) : Option (Int32 × Int32 × (Nat → Int32)) :=
  (F_X4_open 5 10 sz 50 f).bind fun r1 => if 0 ≤ r1.1 then ((F_X4_put 5 r1.2.1 50 r1.2.2 r1.1 0 x).bind fun r4 => (F_X4_put 5 r1.2.1 50 r4.2 r1.1 1 y).bind fun r6 => (F_X4_put 5 r1.2.1 50 r6.2 r1.1 2 br).bind fun r8 => some (r1.1, r1.2.1, r8.2)) else (some ((-3), r1.2.1, r1.2.2))
set_option maxRecDepth 100000 in
set_option maxHeartbeats 4000000 in
theorem c_X8_addThing (sz : Int32) (fo : Int32) (tu : Int32) (f : Nat → Int32) (x : Int32) (y : Int32) (br : Int32) (rr : Int32 × Int32 × (Nat → Int32)) (hF : F_X8_addThing sz f x y br = some rr) : Cd mX8_addThing R_X8_addThing [.ref 0, .int x, .int y, .int br] [(0, .inr (2, [.int 5, .int 10, .ref 1, .int sz, .int fo, .int tu])), (1, .inl (0, 50, .inl f))] (some (.int rr.1)) [(0, .inr (2, [.int 5, .int 10, .ref 1, .int rr.2.1, .int fo, .int tu])), (1, .inl (0, 50, .inl rr.2.2))] := by
  unfold F_X8_addThing at hF
  refine Ct.of rfl (Nat.le_of_ble_eq_true rfl) ?_
  refine Go.run qX8_addThing IX8_ok 0 1 (1, [(0, .ref 0), (1, .int x), (2, .int y), (3, .int br)], [.ref 0], [(0, .inr (2, [.int 5, .int 10, .ref 1, .int sz, .int fo, .int tu])), (1, .inl (0, 50, .inl f))]) [] rfl trivial ?_
  obtain ⟨r1, h2, hF⟩ := gbind hF
  refine Tk_u qX8_addThing 1 rfl (c_X4_open__2 5 10 sz fo tu 50 f r1 h2) kX8_275_2 0 rfl rfl (gr [0, 1]) [0, 1] rfl rfl rfl rfl ⟨rfl, rfl, by decide, by decide⟩ [] rfl (Nat.le_of_ble_eq_true rfl) [.int r1.1] rfl [(0, .inr (2, [.int 5, .int 10, .ref 1, .int r1.2.1, .int fo, .int tu])), (1, .inl (0, 50, .inl r1.2.2))] rfl ?_
  refine Go.run qX8_addThing IX8_ok 2 2 (8, [(4, .int r1.1), (0, .ref 0), (1, .int x), (2, .int y), (3, .int br)], [.int r1.1], [(0, .inr (2, [.int 5, .int 10, .ref 1, .int r1.2.1, .int fo, .int tu])), (1, .inl (0, 50, .inl r1.2.2))]) [] rfl trivial ?_
  refine Ti_ge qX8_addThing 4 6 14 rfl rfl (fun hb3 => ?_) (fun hb3 => ?_)
  · replace hF := gpos hb3 hF
    refine Go.run qX8_addThing IX8_ok 7 4 (19, [(4, .int r1.1), (0, .ref 0), (1, .int x), (2, .int y), (3, .int br)], [.int x, .int 0, .int r1.1, .ref 0], [(0, .inr (2, [.int 5, .int 10, .ref 1, .int r1.2.1, .int fo, .int tu])), (1, .inl (0, 50, .inl r1.2.2))]) [] rfl trivial ?_
    obtain ⟨r4, h5, hF⟩ := gbind hF
    refine Tk_u qX8_addThing 11 rfl (c_X4_put__2 5 10 r1.2.1 fo tu 50 r1.2.2 r1.1 0 x r4 h5) kX8_89_2 0 rfl rfl (gr [0, 1]) [0, 1] rfl rfl rfl rfl ⟨rfl, rfl, by decide, by decide⟩ [] rfl (Nat.le_of_ble_eq_true rfl) [.int r4.1] rfl [(0, .inr (2, [.int 5, .int 10, .ref 1, .int r1.2.1, .int fo, .int tu])), (1, .inl (0, 50, .inl r4.2))] rfl ?_
    refine Go.run qX8_addThing IX8_ok 12 5 (28, [(4, .int r1.1), (0, .ref 0), (1, .int x), (2, .int y), (3, .int br)], [.int y, .int 1, .int r1.1, .ref 0], [(0, .inr (2, [.int 5, .int 10, .ref 1, .int r1.2.1, .int fo, .int tu])), (1, .inl (0, 50, .inl r4.2))]) [] rfl trivial ?_
    obtain ⟨r6, h7, hF⟩ := gbind hF
    refine Tk_u qX8_addThing 17 rfl (c_X4_put__2 5 10 r1.2.1 fo tu 50 r4.2 r1.1 1 y r6 h7) kX8_89_2 0 rfl rfl (gr [0, 1]) [0, 1] rfl rfl rfl rfl ⟨rfl, rfl, by decide, by decide⟩ [] rfl (Nat.le_of_ble_eq_true rfl) [.int r6.1] rfl [(0, .inr (2, [.int 5, .int 10, .ref 1, .int r1.2.1, .int fo, .int tu])), (1, .inl (0, 50, .inl r6.2))] rfl ?_
    refine Go.run qX8_addThing IX8_ok 18 5 (37, [(4, .int r1.1), (0, .ref 0), (1, .int x), (2, .int y), (3, .int br)], [.int br, .int 2, .int r1.1, .ref 0], [(0, .inr (2, [.int 5, .int 10, .ref 1, .int r1.2.1, .int fo, .int tu])), (1, .inl (0, 50, .inl r6.2))]) [] rfl trivial ?_
    obtain ⟨r8, h9, hF⟩ := gbind hF
    refine Tk_u qX8_addThing 23 rfl (c_X4_put__2 5 10 r1.2.1 fo tu 50 r6.2 r1.1 2 br r8 h9) kX8_89_2 0 rfl rfl (gr [0, 1]) [0, 1] rfl rfl rfl rfl ⟨rfl, rfl, by decide, by decide⟩ [] rfl (Nat.le_of_ble_eq_true rfl) [.int r8.1] rfl [(0, .inr (2, [.int 5, .int 10, .ref 1, .int r1.2.1, .int fo, .int tu])), (1, .inl (0, 50, .inl r8.2))] rfl ?_
    refine Go.run qX8_addThing IX8_ok 24 2 (43, [(4, .int r1.1), (0, .ref 0), (1, .int x), (2, .int y), (3, .int br)], [.int r1.1], [(0, .inr (2, [.int 5, .int 10, .ref 1, .int r1.2.1, .int fo, .int tu])), (1, .inl (0, 50, .inl r8.2))]) [] rfl trivial ?_
    obtain rfl := Option.some.inj hF
    exact Tr_i qX8_addThing 26 rfl rfl ⟨rfl, rfl⟩
  · replace hF := gneg hb3 hF
    refine Go.run qX8_addThing IX8_ok 5 1 (13, [(4, .int r1.1), (0, .ref 0), (1, .int x), (2, .int y), (3, .int br)], [.int (-3)], [(0, .inr (2, [.int 5, .int 10, .ref 1, .int r1.2.1, .int fo, .int tu])), (1, .inl (0, 50, .inl r1.2.2))]) [] rfl trivial ?_
    obtain rfl := Option.some.inj hF
    exact Tr_i qX8_addThing 6 rfl rfl ⟨rfl, rfl⟩
def R_X8_addPoint : Room := { frames := 2, cells := 0, slots := 0, locals := 47 }
noncomputable def F_X8_addPoint (wd : Int32) (mo : Int32) (sz : Int32) (n : Nat) (f : Nat → Int32) (x : Int32) (y : Int32) : Option (Int32 × Int32 × (Nat → Int32)) :=
  (F_X8_isPoint x y).bind fun r1 => if r1 = 0 then (some ((-1), sz, f)) else ((F_X4_open wd mo sz n f).bind fun r4 => if 0 ≤ r4.1 then ((F_X4_put wd r4.2.1 n r4.2.2 r4.1 0 x).bind fun r7 => (F_X4_put wd r4.2.1 n r7.2 r4.1 1 y).bind fun r9 => some (r4.1, r4.2.1, r9.2)) else (some ((-3), r4.2.1, r4.2.2)))
set_option maxRecDepth 100000 in
set_option maxHeartbeats 4000000 in
theorem c_X8_addPoint (wd : Int32) (mo : Int32) (sz : Int32) (n : Nat) (f : Nat → Int32) (x : Int32) (y : Int32) (rr : Int32 × Int32 × (Nat → Int32)) (hF : F_X8_addPoint wd mo sz n f x y = some rr) : Cd mX8_addPoint R_X8_addPoint [.ref 0, .int x, .int y] [(0, .inr (4, [.int wd, .int mo, .ref 1, .int sz])), (1, .inl (0, n, .inl f))] (some (.int rr.1)) [(0, .inr (4, [.int wd, .int mo, .ref 1, .int rr.2.1])), (1, .inl (0, n, .inl rr.2.2))] := by
  unfold F_X8_addPoint at hF
  refine Ct.of rfl (Nat.le_of_ble_eq_true rfl) ?_
  refine Go.run qX8_addPoint IX8_ok 0 2 (2, [(0, .ref 0), (1, .int x), (2, .int y)], [.int y, .int x], [(0, .inr (4, [.int wd, .int mo, .ref 1, .int sz])), (1, .inl (0, n, .inl f))]) [] rfl trivial ?_
  obtain ⟨r1, h2, hF⟩ := gbind hF
  refine Tk_s qX8_addPoint 2 rfl (c_X8_isPoint x y r1 h2) kX8_70 (gr []) [] rfl rfl rfl rfl ⟨rfl, rfl, by decide, by decide⟩ [] rfl (Nat.le_of_ble_eq_true rfl) [.int r1] rfl [(0, .inr (4, [.int wd, .int mo, .ref 1, .int sz])), (1, .inl (0, n, .inl f))] rfl ?_
  refine Ti_ne qX8_addPoint 3 5 10 rfl rfl (fun hb3 => ?_) (fun hb3 => ?_)
  · replace hF := gneg hb3 hF
    refine Go.run qX8_addPoint IX8_ok 6 1 (11, [(0, .ref 0), (1, .int x), (2, .int y)], [.ref 0], [(0, .inr (4, [.int wd, .int mo, .ref 1, .int sz])), (1, .inl (0, n, .inl f))]) [] rfl trivial ?_
    obtain ⟨r4, h5, hF⟩ := gbind hF
    refine Tk_v0 qX8_addPoint 7 rfl (c_X4_open__4 wd mo sz n f r4 h5) kX8_212_4 0 rfl rfl [0, 1] rfl rfl rfl rfl ⟨rfl, rfl, by decide, by decide⟩ [] rfl (Nat.le_of_ble_eq_true rfl) [.int r4.1] rfl [(0, .inr (4, [.int wd, .int mo, .ref 1, .int r4.2.1])), (1, .inl (0, n, .inl r4.2.2))] rfl ?_
    refine Go.run qX8_addPoint IX8_ok 8 2 (16, [(3, .int r4.1), (0, .ref 0), (1, .int x), (2, .int y)], [.int r4.1], [(0, .inr (4, [.int wd, .int mo, .ref 1, .int r4.2.1])), (1, .inl (0, n, .inl r4.2.2))]) [] rfl trivial ?_
    refine Ti_ge qX8_addPoint 10 6 22 rfl rfl (fun hb6 => ?_) (fun hb6 => ?_)
    · replace hF := gpos hb6 hF
      refine Go.run qX8_addPoint IX8_ok 13 4 (26, [(3, .int r4.1), (0, .ref 0), (1, .int x), (2, .int y)], [.int x, .int 0, .int r4.1, .ref 0], [(0, .inr (4, [.int wd, .int mo, .ref 1, .int r4.2.1])), (1, .inl (0, n, .inl r4.2.2))]) [] rfl trivial ?_
      obtain ⟨r7, h8, hF⟩ := gbind hF
      refine Tk_v0 qX8_addPoint 17 rfl (c_X4_put__4 wd mo r4.2.1 n r4.2.2 r4.1 0 x r7 h8) kX8_107_4 0 rfl rfl [0, 1] rfl rfl rfl rfl ⟨rfl, rfl, by decide, by decide⟩ [] rfl (Nat.le_of_ble_eq_true rfl) [.int r7.1] rfl [(0, .inr (4, [.int wd, .int mo, .ref 1, .int r4.2.1])), (1, .inl (0, n, .inl r7.2))] rfl ?_
      refine Go.run qX8_addPoint IX8_ok 18 5 (34, [(3, .int r4.1), (0, .ref 0), (1, .int x), (2, .int y)], [.int y, .int 1, .int r4.1, .ref 0], [(0, .inr (4, [.int wd, .int mo, .ref 1, .int r4.2.1])), (1, .inl (0, n, .inl r7.2))]) [] rfl trivial ?_
      obtain ⟨r9, h10, hF⟩ := gbind hF
      refine Tk_v0 qX8_addPoint 23 rfl (c_X4_put__4 wd mo r4.2.1 n r7.2 r4.1 1 y r9 h10) kX8_107_4 0 rfl rfl [0, 1] rfl rfl rfl rfl ⟨rfl, rfl, by decide, by decide⟩ [] rfl (Nat.le_of_ble_eq_true rfl) [.int r9.1] rfl [(0, .inr (4, [.int wd, .int mo, .ref 1, .int r4.2.1])), (1, .inl (0, n, .inl r9.2))] rfl ?_
      refine Go.run qX8_addPoint IX8_ok 24 2 (39, [(3, .int r4.1), (0, .ref 0), (1, .int x), (2, .int y)], [.int r4.1], [(0, .inr (4, [.int wd, .int mo, .ref 1, .int r4.2.1])), (1, .inl (0, n, .inl r9.2))]) [] rfl trivial ?_
      obtain rfl := Option.some.inj hF
      exact Tr_i qX8_addPoint 26 rfl rfl ⟨rfl, rfl⟩
    · replace hF := gneg hb6 hF
      refine Go.run qX8_addPoint IX8_ok 11 1 (21, [(3, .int r4.1), (0, .ref 0), (1, .int x), (2, .int y)], [.int (-3)], [(0, .inr (4, [.int wd, .int mo, .ref 1, .int r4.2.1])), (1, .inl (0, n, .inl r4.2.2))]) [] rfl trivial ?_
      obtain rfl := Option.some.inj hF
      exact Tr_i qX8_addPoint 12 rfl rfl ⟨rfl, rfl⟩
  · replace hF := gpos hb3 hF
    refine Go.run qX8_addPoint IX8_ok 4 1 (9, [(0, .ref 0), (1, .int x), (2, .int y)], [.int (-1)], [(0, .inr (4, [.int wd, .int mo, .ref 1, .int sz])), (1, .inl (0, n, .inl f))]) [] rfl trivial ?_
    obtain rfl := Option.some.inj hF
    exact Tr_i qX8_addPoint 5 rfl rfl ⟨rfl, rfl⟩
def R_X6_isMissing : Room := { frames := 0, cells := 0, slots := 0, locals := 0 }
noncomputable def F_X6_isMissing (ln : Int32) : Option Int32 :=
  if ln = (-1) then (some 1) else (some 0)
set_option maxRecDepth 100000 in
set_option maxHeartbeats 4000000 in
theorem c_X6_isMissing (ln : Int32) (sn : Int32) (rr : Int32) (hF : F_X6_isMissing ln = some rr) : Cd mX6_isMissing R_X6_isMissing [.ref 0] [(0, .inr (6, [.int ln, .int sn, .ref 1]))] (some (.int rr)) [(0, .inr (6, [.int ln, .int sn, .ref 1]))] := by
  unfold F_X6_isMissing at hF
  refine Ct.of rfl (Nat.le_of_ble_eq_true rfl) ?_
  refine Go.run qX6_isMissing IX6_ok 0 3 (5, [(0, .ref 0)], [.int (-1), .int ln], [(0, .inr (6, [.int ln, .int sn, .ref 1]))]) [] rfl trivial ?_
  refine Tc_ne qX6_isMissing 3 7 12 rfl rfl (fun hb1 => ?_) (fun hb1 => ?_)
  · replace hF := gneg hb1 hF
    refine Go.run qX6_isMissing IX6_ok 6 1 (13, [(0, .ref 0)], [.int 0], [(0, .inr (6, [.int ln, .int sn, .ref 1]))]) [] rfl trivial ?_
    obtain rfl := Option.some.inj hF
    exact Tr_z qX6_isMissing 7 rfl rfl (by decide) ⟨rfl, rfl⟩
  · replace hF := gpos hb1 hF
    refine Go.run qX6_isMissing IX6_ok 4 2 (13, [(0, .ref 0)], [.int 1], [(0, .inr (6, [.int ln, .int sn, .ref 1]))]) [] rfl trivial ?_
    obtain rfl := Option.some.inj hF
    exact Tr_z qX6_isMissing 7 rfl rfl (by decide) ⟨rfl, rfl⟩
def R_X6_lane : Room := { frames := 0, cells := 0, slots := 0, locals := 0 }
noncomputable def F_X6_lane (ln : Int32) : Option Int32 :=
  some ln
set_option maxRecDepth 100000 in
set_option maxHeartbeats 4000000 in
theorem c_X6_lane (ln : Int32) (sn : Int32) (rr : Int32) (hF : F_X6_lane ln = some rr) : Cd mX6_lane R_X6_lane [.ref 0] [(0, .inr (6, [.int ln, .int sn, .ref 1]))] (some (.int rr)) [(0, .inr (6, [.int ln, .int sn, .ref 1]))] := by
  unfold F_X6_lane at hF
  refine Ct.of rfl (Nat.le_of_ble_eq_true rfl) ?_
  refine Go.run qX6_lane IX6_ok 0 2 (4, [(0, .ref 0)], [.int ln], [(0, .inr (6, [.int ln, .int sn, .ref 1]))]) [] rfl trivial ?_
  obtain rfl := Option.some.inj hF
  exact Tr_i qX6_lane 2 rfl rfl ⟨rfl, rfl⟩
def R_X6_size : Room := { frames := 0, cells := 0, slots := 0, locals := 0 }
noncomputable def F_X6_size (sn : Int32) : Option Int32 :=
  some sn
set_option maxRecDepth 100000 in
set_option maxHeartbeats 4000000 in
theorem c_X6_size (ln : Int32) (sn : Int32) (rr : Int32) (hF : F_X6_size sn = some rr) : Cd mX6_size R_X6_size [.ref 0] [(0, .inr (6, [.int ln, .int sn, .ref 1]))] (some (.int rr)) [(0, .inr (6, [.int ln, .int sn, .ref 1]))] := by
  unfold F_X6_size at hF
  refine Ct.of rfl (Nat.le_of_ble_eq_true rfl) ?_
  refine Go.run qX6_size IX6_ok 0 2 (4, [(0, .ref 0)], [.int sn], [(0, .inr (6, [.int ln, .int sn, .ref 1]))]) [] rfl trivial ?_
  obtain rfl := Option.some.inj hF
  exact Tr_i qX6_size 2 rfl rfl ⟨rfl, rfl⟩
def R_X6_renew : Room := { frames := 0, cells := 0, slots := 0, locals := 0 }
noncomputable def FL_X6_renew_12 (kk34 : Int32 → (Nat → Int64) → Option (Int32 × Int32 × (Nat → Int64))) : Nat → Int32 → (Nat → Int64) → Option (Int32 × Int32 × (Nat → Int64))
  | 0, _, _ => none
  | fu + 1, l3_12, a1_12 => if 24 ≤ l3_12 then (kk34 l3_12 a1_12) else (if gvp l3_12 24 then (FL_X6_renew_12 kk34 fu (l3_12 + 1) (vp_updL a1_12 l3_12.toNatClampNeg 0)) else none)
noncomputable def F_X6_renew (it : Nat → Int64) (nl : Int32) (k : Int32) : Option (Int32 × Int32 × (Nat → Int64)) :=
  FL_X6_renew_12 (fun l3_12 a1_12 => some (nl, k, a1_12)) gN0 0 it
set_option maxRecDepth 100000 in
set_option maxHeartbeats 4000000 in
theorem t_X6_renew_12 (ln : Int32) (sn : Int32) (it : Nat → Int64) (nl : Int32) (k : Int32) (kk34 : Int32 → (Nat → Int64) → Option (Int32 × Int32 × (Nat → Int64))) (rr : Int32 × Int32 × (Nat → Int64))  (hk34 : ∀ (l3_12 : Int32) (a1_12 : Nat → Int64), kk34 l3_12 a1_12 = some rr → Go mX6_renew R_X6_renew (gRet mX6_renew (fun r0 w0 => r0 = none ∧ w0 = [(0, .inr (6, [.int rr.1, .int rr.2.1, .ref 1])), (1, .inl (1, 24, .inr (.inl rr.2.2)))])) (34, [(0, .ref 0), (1, .int nl), (2, .int k), (3, .int l3_12)], [], [(0, .inr (6, [.int nl, .int k, .ref 1])), (1, .inl (1, 24, .inr (.inl a1_12)))])) : ∀ (fu : Nat) (l3_12 : Int32) (a1_12 : Nat → Int64), FL_X6_renew_12 kk34 fu l3_12 a1_12 = some rr → Go mX6_renew R_X6_renew (gRet mX6_renew (fun r0 w0 => r0 = none ∧ w0 = [(0, .inr (6, [.int rr.1, .int rr.2.1, .ref 1])), (1, .inl (1, 24, .inr (.inl rr.2.2)))])) (12, [(0, .ref 0), (1, .int nl), (2, .int k), (3, .int l3_12)], [], [(0, .inr (6, [.int nl, .int k, .ref 1])), (1, .inl (1, 24, .inr (.inl a1_12)))]) := by
  intro fu
  induction fu with
  | zero =>
    intro l3_12 a1_12 hF
    cases hF
  | succ fu ih =>
    intro l3_12 a1_12 hF
    unfold FL_X6_renew_12 at hF
    refine Go.run qX6_renew IX6_ok 8 4 (18, [(0, .ref 0), (1, .int nl), (2, .int k), (3, .int l3_12)], [.int 24, .int l3_12], [(0, .inr (6, [.int nl, .int k, .ref 1])), (1, .inl (1, 24, .inr (.inl a1_12)))]) [] rfl trivial ?_
    refine Tc_ge qX6_renew 12 16 34 rfl rfl (fun hb1121 => ?_) (fun hb1121 => ?_)
    · replace hF := gpos hb1121 hF
      exact hk34 l3_12 a1_12 hF
    · replace hF := gneg hb1121 hF
      obtain ⟨hc1122, hF⟩ := gif hF
      refine Go.run qX6_renew IX6_ok 13 7 (12, [(3, .int (l3_12 + 1)), (0, .ref 0), (1, .int nl), (2, .int k)], [], [(0, .inr (6, [.int nl, .int k, .ref 1])), (1, .inl (1, 24, .inr (.inl (vp_updL a1_12 l3_12.toNatClampNeg 0))))]) [gvp l3_12 24] rfl ⟨hc1122, trivial⟩ ?_
      refine Go.loc [1, 2, 3, 0] rfl ?_
      exact ih (l3_12 + 1) (vp_updL a1_12 l3_12.toNatClampNeg 0) hF
set_option maxRecDepth 100000 in
set_option maxHeartbeats 4000000 in
theorem c_X6_renew (ln : Int32) (sn : Int32) (it : Nat → Int64) (nl : Int32) (k : Int32) (rr : Int32 × Int32 × (Nat → Int64)) (hF : F_X6_renew it nl k = some rr) : Cd mX6_renew R_X6_renew [.ref 0, .int nl, .int k] [(0, .inr (6, [.int ln, .int sn, .ref 1])), (1, .inl (1, 24, .inr (.inl it)))] (none) [(0, .inr (6, [.int rr.1, .int rr.2.1, .ref 1])), (1, .inl (1, 24, .inr (.inl rr.2.2)))] := by
  unfold F_X6_renew at hF
  refine Ct.of rfl (Nat.le_of_ble_eq_true rfl) ?_
  refine Go.run qX6_renew IX6_ok 0 8 (12, [(3, .int 0), (0, .ref 0), (1, .int nl), (2, .int k)], [], [(0, .inr (6, [.int nl, .int k, .ref 1])), (1, .inl (1, 24, .inr (.inl it)))]) [] rfl trivial ?_
  refine Go.loc [1, 2, 3, 0] rfl ?_
  refine t_X6_renew_12 ln sn it nl k _ rr (fun l3_12 a1_12 hF => ?_) gN0 0 it hF
  obtain rfl := Option.some.inj hF
  exact Tr_v qX6_renew 20 rfl rfl ⟨rfl, rfl⟩
def R_X6_lose : Room := { frames := 0, cells := 0, slots := 0, locals := 0 }
noncomputable def F_X6_lose  : Option (Int32 × Int32) :=
  some ((-1), 0)
set_option maxRecDepth 100000 in
set_option maxHeartbeats 4000000 in
theorem c_X6_lose (ln : Int32) (sn : Int32) (rr : Int32 × Int32) (hF : F_X6_lose  = some rr) : Cd mX6_lose R_X6_lose [.ref 0] [(0, .inr (6, [.int ln, .int sn, .ref 1]))] (none) [(0, .inr (6, [.int rr.1, .int rr.2, .ref 1]))] := by
  unfold F_X6_lose at hF
  refine Ct.of rfl (Nat.le_of_ble_eq_true rfl) ?_
  refine Go.run qX6_lose IX6_ok 0 6 (10, [(0, .ref 0)], [], [(0, .inr (6, [.int (-1), .int 0, .ref 1]))]) [] rfl trivial ?_
  obtain rfl := Option.some.inj hF
  exact Tr_v qX6_lose 6 rfl rfl ⟨rfl, rfl⟩
def R_X6_refusal : Room := { frames := 1, cells := 0, slots := 0, locals := 20 }
noncomputable def F_X6_refusal (ln : Int32) (sn : Int32) (al : Int32) (i : Int32) (k : Int32) : Option Int32 :=
  (F_X6_isMissing ln).bind fun r1 => if r1 = 0 then (if ln = al then (if k < 0 then (some (-13)) else (if i < 0 then (some (-13)) else (if i ≤ (sn - k) then (some 0) else (some (-13))))) else (some (-12))) else (some (-11))
set_option maxRecDepth 100000 in
set_option maxHeartbeats 4000000 in
theorem c_X6_refusal (ln : Int32) (sn : Int32) (al : Int32) (i : Int32) (k : Int32) (rr : Int32) (hF : F_X6_refusal ln sn al i k = some rr) : Cd mX6_refusal R_X6_refusal [.ref 0, .int al, .int i, .int k] [(0, .inr (6, [.int ln, .int sn, .ref 1]))] (some (.int rr)) [(0, .inr (6, [.int ln, .int sn, .ref 1]))] := by
  unfold F_X6_refusal at hF
  refine Ct.of rfl (Nat.le_of_ble_eq_true rfl) ?_
  refine Go.run qX6_refusal IX6_ok 0 1 (1, [(0, .ref 0), (1, .int al), (2, .int i), (3, .int k)], [.ref 0], [(0, .inr (6, [.int ln, .int sn, .ref 1]))]) [] rfl trivial ?_
  obtain ⟨r1, h2, hF⟩ := gbind hF
  refine Tk_v0 qX6_refusal 1 rfl (c_X6_isMissing ln sn r1 h2) kX6_22_6 0 rfl rfl [0] rfl rfl rfl rfl ⟨rfl, rfl, by decide, by decide⟩ [] rfl (Nat.le_of_ble_eq_true rfl) [.int r1] rfl [(0, .inr (6, [.int ln, .int sn, .ref 1]))] rfl ?_
  refine Ti_eq qX6_refusal 2 6 10 rfl rfl (fun hb3 => ?_) (fun hb3 => ?_)
  · replace hF := gpos hb3 hF
    refine Go.run qX6_refusal IX6_ok 5 3 (15, [(0, .ref 0), (1, .int al), (2, .int i), (3, .int k)], [.int al, .int ln], [(0, .inr (6, [.int ln, .int sn, .ref 1]))]) [] rfl trivial ?_
    refine Tc_eq qX6_refusal 8 6 21 rfl rfl (fun hb4 => ?_) (fun hb4 => ?_)
    · replace hF := gpos hb4 hF
      refine Go.run qX6_refusal IX6_ok 11 1 (22, [(0, .ref 0), (1, .int al), (2, .int i), (3, .int k)], [.int k], [(0, .inr (6, [.int ln, .int sn, .ref 1]))]) [] rfl trivial ?_
      refine Ti_lt qX6_refusal 12 17 39 rfl rfl (fun hb5 => ?_) (fun hb5 => ?_)
      · replace hF := gpos hb5 hF
        refine Go.run qX6_refusal IX6_ok 21 2 (45, [(0, .ref 0), (1, .int al), (2, .int i), (3, .int k)], [.int (-13)], [(0, .inr (6, [.int ln, .int sn, .ref 1]))]) [] rfl trivial ?_
        obtain rfl := Option.some.inj hF
        exact Tr_i qX6_refusal 24 rfl rfl ⟨rfl, rfl⟩
      · replace hF := gneg hb5 hF
        refine Go.run qX6_refusal IX6_ok 13 1 (26, [(0, .ref 0), (1, .int al), (2, .int i), (3, .int k)], [.int i], [(0, .inr (6, [.int ln, .int sn, .ref 1]))]) [] rfl trivial ?_
        refine Ti_lt qX6_refusal 14 13 39 rfl rfl (fun hb6 => ?_) (fun hb6 => ?_)
        · replace hF := gpos hb6 hF
          refine Go.run qX6_refusal IX6_ok 21 2 (45, [(0, .ref 0), (1, .int al), (2, .int i), (3, .int k)], [.int (-13)], [(0, .inr (6, [.int ln, .int sn, .ref 1]))]) [] rfl trivial ?_
          obtain rfl := Option.some.inj hF
          exact Tr_i qX6_refusal 24 rfl rfl ⟨rfl, rfl⟩
        · replace hF := gneg hb6 hF
          refine Go.run qX6_refusal IX6_ok 15 5 (36, [(0, .ref 0), (1, .int al), (2, .int i), (3, .int k)], [.int (sn - k), .int i], [(0, .inr (6, [.int ln, .int sn, .ref 1]))]) [] rfl trivial ?_
          refine Tc_le qX6_refusal 20 8 44 rfl rfl (fun hb7 => ?_) (fun hb7 => ?_)
          · replace hF := gpos hb7 hF
            refine Go.run qX6_refusal IX6_ok 23 1 (45, [(0, .ref 0), (1, .int al), (2, .int i), (3, .int k)], [.int 0], [(0, .inr (6, [.int ln, .int sn, .ref 1]))]) [] rfl trivial ?_
            obtain rfl := Option.some.inj hF
            exact Tr_i qX6_refusal 24 rfl rfl ⟨rfl, rfl⟩
          · replace hF := gneg hb7 hF
            refine Go.run qX6_refusal IX6_ok 21 2 (45, [(0, .ref 0), (1, .int al), (2, .int i), (3, .int k)], [.int (-13)], [(0, .inr (6, [.int ln, .int sn, .ref 1]))]) [] rfl trivial ?_
            obtain rfl := Option.some.inj hF
            exact Tr_i qX6_refusal 24 rfl rfl ⟨rfl, rfl⟩
    · replace hF := gneg hb4 hF
      refine Go.run qX6_refusal IX6_ok 9 1 (20, [(0, .ref 0), (1, .int al), (2, .int i), (3, .int k)], [.int (-12)], [(0, .inr (6, [.int ln, .int sn, .ref 1]))]) [] rfl trivial ?_
      obtain rfl := Option.some.inj hF
      exact Tr_i qX6_refusal 10 rfl rfl ⟨rfl, rfl⟩
  · replace hF := gneg hb3 hF
    refine Go.run qX6_refusal IX6_ok 3 1 (9, [(0, .ref 0), (1, .int al), (2, .int i), (3, .int k)], [.int (-11)], [(0, .inr (6, [.int ln, .int sn, .ref 1]))]) [] rfl trivial ?_
    obtain rfl := Option.some.inj hF
    exact Tr_i qX6_refusal 4 rfl rfl ⟨rfl, rfl⟩
def R_X6_get : Room := { frames := 0, cells := 0, slots := 0, locals := 0 }
noncomputable def F_X6_get (sn : Int32) (it : Nat → Int64) (i : Int32) : Option Int64 :=
  if i < 0 then (some 0) else (if sn ≤ i then (some 0) else (if 24 ≤ i then (some 0) else (if gvp i 24 then (some (it i.toNatClampNeg)) else none)))
set_option maxRecDepth 100000 in
set_option maxHeartbeats 4000000 in
theorem c_X6_get (ln : Int32) (sn : Int32) (it : Nat → Int64) (i : Int32) (rr : Int64) (hF : F_X6_get sn it i = some rr) : Cd mX6_get R_X6_get [.ref 0, .int i] [(0, .inr (6, [.int ln, .int sn, .ref 1])), (1, .inl (1, 24, .inr (.inl it)))] (some (.long rr)) [(0, .inr (6, [.int ln, .int sn, .ref 1])), (1, .inl (1, 24, .inr (.inl it)))] := by
  unfold F_X6_get at hF
  refine Ct.of rfl (Nat.le_of_ble_eq_true rfl) ?_
  refine Go.run qX6_get IX6_ok 0 1 (1, [(0, .ref 0), (1, .int i)], [.int i], [(0, .inr (6, [.int ln, .int sn, .ref 1])), (1, .inl (1, 24, .inr (.inl it)))]) [] rfl trivial ?_
  refine Ti_lt qX6_get 1 29 30 rfl rfl (fun hb1 => ?_) (fun hb1 => ?_)
  · replace hF := gpos hb1 hF
    refine Go.run qX6_get IX6_ok 16 1 (31, [(0, .ref 0), (1, .int i)], [.long 0], [(0, .inr (6, [.int ln, .int sn, .ref 1])), (1, .inl (1, 24, .inr (.inl it)))]) [] rfl trivial ?_
    obtain rfl := Option.some.inj hF
    exact Tr_l qX6_get 17 rfl rfl ⟨rfl, rfl⟩
  · replace hF := gneg hb1 hF
    refine Go.run qX6_get IX6_ok 2 3 (9, [(0, .ref 0), (1, .int i)], [.int sn, .int i], [(0, .inr (6, [.int ln, .int sn, .ref 1])), (1, .inl (1, 24, .inr (.inl it)))]) [] rfl trivial ?_
    refine Tc_ge qX6_get 5 21 30 rfl rfl (fun hb2 => ?_) (fun hb2 => ?_)
    · replace hF := gpos hb2 hF
      refine Go.run qX6_get IX6_ok 16 1 (31, [(0, .ref 0), (1, .int i)], [.long 0], [(0, .inr (6, [.int ln, .int sn, .ref 1])), (1, .inl (1, 24, .inr (.inl it)))]) [] rfl trivial ?_
      obtain rfl := Option.some.inj hF
      exact Tr_l qX6_get 17 rfl rfl ⟨rfl, rfl⟩
    · replace hF := gneg hb2 hF
      refine Go.run qX6_get IX6_ok 6 4 (18, [(0, .ref 0), (1, .int i)], [.int 24, .int i], [(0, .inr (6, [.int ln, .int sn, .ref 1])), (1, .inl (1, 24, .inr (.inl it)))]) [] rfl trivial ?_
      refine Tc_ge qX6_get 10 12 30 rfl rfl (fun hb3 => ?_) (fun hb3 => ?_)
      · replace hF := gpos hb3 hF
        refine Go.run qX6_get IX6_ok 16 1 (31, [(0, .ref 0), (1, .int i)], [.long 0], [(0, .inr (6, [.int ln, .int sn, .ref 1])), (1, .inl (1, 24, .inr (.inl it)))]) [] rfl trivial ?_
        obtain rfl := Option.some.inj hF
        exact Tr_l qX6_get 17 rfl rfl ⟨rfl, rfl⟩
      · replace hF := gneg hb3 hF
        obtain ⟨hc4, hF⟩ := gif hF
        refine Go.run qX6_get IX6_ok 11 5 (31, [(0, .ref 0), (1, .int i)], [.long (it i.toNatClampNeg)], [(0, .inr (6, [.int ln, .int sn, .ref 1])), (1, .inl (1, 24, .inr (.inl it)))]) [gvp i 24] rfl ⟨hc4, trivial⟩ ?_
        obtain rfl := Option.some.inj hF
        exact Tr_l qX6_get 17 rfl rfl ⟨rfl, rfl⟩
def R_X6_put : Room := { frames := 0, cells := 0, slots := 0, locals := 0 }
noncomputable def F_X6_put (ln : Int32) (sn : Int32) (it : Nat → Int64) (i : Int32) (v : Int64) : Option ((Nat → Int64)) :=
  if i < 0 then (some it) else (if sn ≤ i then (some it) else (if 24 ≤ i then (some it) else (if ln = 0 then (if gvp i 24 then (some (vp_updL it i.toNatClampNeg v.toInt32.toInt16.toInt32.toInt64)) else none) else (if ln = 1 then (if gvp i 24 then (some (vp_updL it i.toNatClampNeg v.toInt32.toInt64)) else none) else (if gvp i 24 then (some (vp_updL it i.toNatClampNeg v)) else none)))))
set_option maxRecDepth 100000 in
set_option maxHeartbeats 4000000 in
theorem c_X6_put (ln : Int32) (sn : Int32) (it : Nat → Int64) (i : Int32) (v : Int64) (rr : (Nat → Int64)) (hF : F_X6_put ln sn it i v = some rr) : Cd mX6_put R_X6_put [.ref 0, .int i, .long v] [(0, .inr (6, [.int ln, .int sn, .ref 1])), (1, .inl (1, 24, .inr (.inl it)))] (none) [(0, .inr (6, [.int ln, .int sn, .ref 1])), (1, .inl (1, 24, .inr (.inl rr)))] := by
  unfold F_X6_put at hF
  refine Ct.of rfl (Nat.le_of_ble_eq_true rfl) ?_
  refine Go.run qX6_put IX6_ok 0 1 (1, [(0, .ref 0), (1, .int i), (2, .long v)], [.int i], [(0, .inr (6, [.int ln, .int sn, .ref 1])), (1, .inl (1, 24, .inr (.inl it)))]) [] rfl trivial ?_
  refine Ti_lt qX6_put 1 55 56 rfl rfl (fun hb1 => ?_) (fun hb1 => ?_)
  · replace hF := gpos hb1 hF
    obtain rfl := Option.some.inj hF
    exact Tr_v qX6_put 32 rfl rfl ⟨rfl, rfl⟩
  · replace hF := gneg hb1 hF
    refine Go.run qX6_put IX6_ok 2 3 (9, [(0, .ref 0), (1, .int i), (2, .long v)], [.int sn, .int i], [(0, .inr (6, [.int ln, .int sn, .ref 1])), (1, .inl (1, 24, .inr (.inl it)))]) [] rfl trivial ?_
    refine Tc_ge qX6_put 5 47 56 rfl rfl (fun hb2 => ?_) (fun hb2 => ?_)
    · replace hF := gpos hb2 hF
      obtain rfl := Option.some.inj hF
      exact Tr_v qX6_put 32 rfl rfl ⟨rfl, rfl⟩
    · replace hF := gneg hb2 hF
      refine Go.run qX6_put IX6_ok 6 4 (18, [(0, .ref 0), (1, .int i), (2, .long v)], [.int 24, .int i], [(0, .inr (6, [.int ln, .int sn, .ref 1])), (1, .inl (1, 24, .inr (.inl it)))]) [] rfl trivial ?_
      refine Tc_ge qX6_put 10 38 56 rfl rfl (fun hb3 => ?_) (fun hb3 => ?_)
      · replace hF := gpos hb3 hF
        obtain rfl := Option.some.inj hF
        exact Tr_v qX6_put 32 rfl rfl ⟨rfl, rfl⟩
      · replace hF := gneg hb3 hF
        refine Go.run qX6_put IX6_ok 11 5 (30, [(0, .ref 0), (1, .int i), (2, .long v)], [.int ln, .int i, .ref 1], [(0, .inr (6, [.int ln, .int sn, .ref 1])), (1, .inl (1, 24, .inr (.inl it)))]) [] rfl trivial ?_
        refine Ti_ne qX6_put 16 10 40 rfl rfl (fun hb4 => ?_) (fun hb4 => ?_)
        · replace hF := gneg hb4 hF
          refine Go.run qX6_put IX6_ok 22 3 (45, [(0, .ref 0), (1, .int i), (2, .long v)], [.int 1, .int ln, .int i, .ref 1], [(0, .inr (6, [.int ln, .int sn, .ref 1])), (1, .inl (1, 24, .inr (.inl it)))]) [] rfl trivial ?_
          refine Tc_ne qX6_put 25 9 54 rfl rfl (fun hb5 => ?_) (fun hb5 => ?_)
          · replace hF := gneg hb5 hF
            obtain ⟨hc6, hF⟩ := gif hF
            refine Go.run qX6_put IX6_ok 30 2 (56, [(0, .ref 0), (1, .int i), (2, .long v)], [], [(0, .inr (6, [.int ln, .int sn, .ref 1])), (1, .inl (1, 24, .inr (.inl (vp_updL it i.toNatClampNeg v))))]) [gvp i 24] rfl ⟨hc6, trivial⟩ ?_
            obtain rfl := Option.some.inj hF
            exact Tr_v qX6_put 32 rfl rfl ⟨rfl, rfl⟩
          · replace hF := gpos hb5 hF
            refine Go.run qX6_put IX6_ok 26 4 (55, [(0, .ref 0), (1, .int i), (2, .long v)], [.long v.toInt32.toInt64, .int i, .ref 1], [(0, .inr (6, [.int ln, .int sn, .ref 1])), (1, .inl (1, 24, .inr (.inl it)))]) [] rfl trivial ?_
            obtain ⟨hc7, hF⟩ := gif hF
            refine Go.run qX6_put IX6_ok 31 1 (56, [(0, .ref 0), (1, .int i), (2, .long v)], [], [(0, .inr (6, [.int ln, .int sn, .ref 1])), (1, .inl (1, 24, .inr (.inl (vp_updL it i.toNatClampNeg v.toInt32.toInt64))))]) [gvp i 24] rfl ⟨hc7, trivial⟩ ?_
            obtain rfl := Option.some.inj hF
            exact Tr_v qX6_put 32 rfl rfl ⟨rfl, rfl⟩
        · replace hF := gpos hb4 hF
          refine Go.run qX6_put IX6_ok 17 5 (55, [(0, .ref 0), (1, .int i), (2, .long v)], [.long v.toInt32.toInt16.toInt32.toInt64, .int i, .ref 1], [(0, .inr (6, [.int ln, .int sn, .ref 1])), (1, .inl (1, 24, .inr (.inl it)))]) [] rfl trivial ?_
          obtain ⟨hc8, hF⟩ := gif hF
          refine Go.run qX6_put IX6_ok 31 1 (56, [(0, .ref 0), (1, .int i), (2, .long v)], [], [(0, .inr (6, [.int ln, .int sn, .ref 1])), (1, .inl (1, 24, .inr (.inl (vp_updL it i.toNatClampNeg v.toInt32.toInt16.toInt32.toInt64))))]) [gvp i 24] rfl ⟨hc8, trivial⟩ ?_
          obtain rfl := Option.some.inj hF
          exact Tr_v qX6_put 32 rfl rfl ⟨rfl, rfl⟩
def R_X6_takeItems__o : Room := { frames := 2, cells := 0, slots := 0, locals := 60 }
noncomputable def F_X6_takeItems_o (ln : Int32) (sn : Int32) (it : Nat → Int64) (ln2 : Int32) (sn2 : Int32) (it2 : Nat → Int64) (i : Int32) (j : Int32) (k : Int32) : Option ((Nat → Int64)) :=
  (F_X6_refusal ln2 sn2 ln i k).bind fun r1 => if r1 = 0 then ((F_X6_refusal ln sn ln j k).bind fun r4 => if r4 = 0 then (if gcp i j k 24 24 then (some (va_cpy it2 it i.toNatClampNeg j.toNatClampNeg k.toNatClampNeg)) else none) else (some it)) else (some it)
set_option maxRecDepth 100000 in
set_option maxHeartbeats 4000000 in
theorem c_X6_takeItems__o (ln : Int32) (sn : Int32) (it : Nat → Int64) (ln2 : Int32) (sn2 : Int32) (it2 : Nat → Int64) (i : Int32) (j : Int32) (k : Int32) (rr : (Nat → Int64)) (hF : F_X6_takeItems_o ln sn it ln2 sn2 it2 i j k = some rr) : Cd mX6_takeItems R_X6_takeItems__o [.ref 0, .ref 2, .int i, .int j, .int k] [(0, .inr (6, [.int ln, .int sn, .ref 1])), (1, .inl (1, 24, .inr (.inl it))), (2, .inr (6, [.int ln2, .int sn2, .ref 3])), (3, .inl (1, 24, .inr (.inl it2)))] (none) [(0, .inr (6, [.int ln, .int sn, .ref 1])), (1, .inl (1, 24, .inr (.inl rr))), (2, .inr (6, [.int ln2, .int sn2, .ref 3])), (3, .inl (1, 24, .inr (.inl it2)))] := by
  unfold F_X6_takeItems_o at hF
  refine Ct.of rfl (Nat.le_of_ble_eq_true rfl) ?_
  refine Go.run qX6_takeItems IX6_ok 0 5 (8, [(0, .ref 0), (1, .ref 2), (2, .int i), (3, .int j), (4, .int k)], [.int k, .int i, .int ln, .ref 2], [(0, .inr (6, [.int ln, .int sn, .ref 1])), (1, .inl (1, 24, .inr (.inl it))), (2, .inr (6, [.int ln2, .int sn2, .ref 3])), (3, .inl (1, 24, .inr (.inl it2)))]) [] rfl trivial ?_
  obtain ⟨r1, h2, hF⟩ := gbind hF
  refine Tk_v qX6_takeItems 5 rfl (c_X6_refusal ln2 sn2 ln i k r1 h2) kX6_26_6 0 rfl rfl (gr [2, 3]) [2] rfl rfl rfl rfl ⟨rfl, rfl, by decide, by decide⟩ [] rfl (Nat.le_of_ble_eq_true rfl) [.int r1] rfl [(0, .inr (6, [.int ln, .int sn, .ref 1])), (1, .inl (1, 24, .inr (.inl it))), (2, .inr (6, [.int ln2, .int sn2, .ref 3])), (3, .inl (1, 24, .inr (.inl it2)))] rfl ?_
  refine Ti_ne qX6_takeItems 6 32 43 rfl rfl (fun hb3 => ?_) (fun hb3 => ?_)
  · replace hF := gneg hb3 hF
    obtain rfl := Option.some.inj hF
    exact Tr_v qX6_takeItems 22 rfl rfl ⟨rfl, rfl⟩
  · replace hF := gpos hb3 hF
    refine Go.run qX6_takeItems IX6_ok 7 5 (22, [(0, .ref 0), (1, .ref 2), (2, .int i), (3, .int j), (4, .int k)], [.int k, .int j, .int ln, .ref 0], [(0, .inr (6, [.int ln, .int sn, .ref 1])), (1, .inl (1, 24, .inr (.inl it))), (2, .inr (6, [.int ln2, .int sn2, .ref 3])), (3, .inl (1, 24, .inr (.inl it2)))]) [] rfl trivial ?_
    obtain ⟨r4, h5, hF⟩ := gbind hF
    refine Tk_v0 qX6_takeItems 12 rfl (c_X6_refusal ln sn ln j k r4 h5) kX6_26_6 0 rfl rfl [0] rfl rfl rfl rfl ⟨rfl, rfl, by decide, by decide⟩ [] rfl (Nat.le_of_ble_eq_true rfl) [.int r4] rfl [(0, .inr (6, [.int ln, .int sn, .ref 1])), (1, .inl (1, 24, .inr (.inl it))), (2, .inr (6, [.int ln2, .int sn2, .ref 3])), (3, .inl (1, 24, .inr (.inl it2)))] rfl ?_
    refine Ti_ne qX6_takeItems 13 18 43 rfl rfl (fun hb6 => ?_) (fun hb6 => ?_)
    · replace hF := gneg hb6 hF
      obtain rfl := Option.some.inj hF
      exact Tr_v qX6_takeItems 22 rfl rfl ⟨rfl, rfl⟩
    · replace hF := gpos hb6 hF
      refine Go.run qX6_takeItems IX6_ok 14 7 (40, [(0, .ref 0), (1, .ref 2), (2, .int i), (3, .int j), (4, .int k)], [.int k, .int j, .ref 1, .int i, .ref 3], [(0, .inr (6, [.int ln, .int sn, .ref 1])), (1, .inl (1, 24, .inr (.inl it))), (2, .inr (6, [.int ln2, .int sn2, .ref 3])), (3, .inl (1, 24, .inr (.inl it2)))]) [] rfl trivial ?_
      obtain ⟨hc7, hF⟩ := gif hF
      refine Tx_l qX6_takeItems 21 rfl kcX6_30 rfl rfl hc7 (by decide) (by decide) (Nat.le_of_ble_eq_true rfl) [(0, .inr (6, [.int ln, .int sn, .ref 1])), (1, .inl (1, 24, .inr (.inl (va_cpy it2 it i.toNatClampNeg j.toNatClampNeg k.toNatClampNeg)))), (2, .inr (6, [.int ln2, .int sn2, .ref 3])), (3, .inl (1, 24, .inr (.inl it2)))] rfl ?_
      obtain rfl := Option.some.inj hF
      exact Tr_v qX6_takeItems 22 rfl rfl ⟨rfl, rfl⟩
def R_X6_takeItems__s : Room := { frames := 2, cells := 0, slots := 0, locals := 60 }
noncomputable def F_X6_takeItems_s (ln : Int32) (sn : Int32) (it : Nat → Int64) (i : Int32) (j : Int32) (k : Int32) : Option ((Nat → Int64)) :=
  (F_X6_refusal ln sn ln i k).bind fun r1 => if r1 = 0 then ((F_X6_refusal ln sn ln j k).bind fun r4 => if r4 = 0 then (if gcp i j k 24 24 then (some (va_cpy it it i.toNatClampNeg j.toNatClampNeg k.toNatClampNeg)) else none) else (some it)) else (some it)
set_option maxRecDepth 100000 in
set_option maxHeartbeats 4000000 in
theorem c_X6_takeItems__s (ln : Int32) (sn : Int32) (it : Nat → Int64) (i : Int32) (j : Int32) (k : Int32) (rr : (Nat → Int64)) (hF : F_X6_takeItems_s ln sn it i j k = some rr) : Cd mX6_takeItems R_X6_takeItems__s [.ref 0, .ref 0, .int i, .int j, .int k] [(0, .inr (6, [.int ln, .int sn, .ref 1])), (1, .inl (1, 24, .inr (.inl it)))] (none) [(0, .inr (6, [.int ln, .int sn, .ref 1])), (1, .inl (1, 24, .inr (.inl rr)))] := by
  unfold F_X6_takeItems_s at hF
  refine Ct.of rfl (Nat.le_of_ble_eq_true rfl) ?_
  refine Go.run qX6_takeItems IX6_ok 0 5 (8, [(0, .ref 0), (1, .ref 0), (2, .int i), (3, .int j), (4, .int k)], [.int k, .int i, .int ln, .ref 0], [(0, .inr (6, [.int ln, .int sn, .ref 1])), (1, .inl (1, 24, .inr (.inl it)))]) [] rfl trivial ?_
  obtain ⟨r1, h2, hF⟩ := gbind hF
  refine Tk_v0 qX6_takeItems 5 rfl (c_X6_refusal ln sn ln i k r1 h2) kX6_26_6 0 rfl rfl [0] rfl rfl rfl rfl ⟨rfl, rfl, by decide, by decide⟩ [] rfl (Nat.le_of_ble_eq_true rfl) [.int r1] rfl [(0, .inr (6, [.int ln, .int sn, .ref 1])), (1, .inl (1, 24, .inr (.inl it)))] rfl ?_
  refine Ti_ne qX6_takeItems 6 32 43 rfl rfl (fun hb3 => ?_) (fun hb3 => ?_)
  · replace hF := gneg hb3 hF
    obtain rfl := Option.some.inj hF
    exact Tr_v qX6_takeItems 22 rfl rfl ⟨rfl, rfl⟩
  · replace hF := gpos hb3 hF
    refine Go.run qX6_takeItems IX6_ok 7 5 (22, [(0, .ref 0), (1, .ref 0), (2, .int i), (3, .int j), (4, .int k)], [.int k, .int j, .int ln, .ref 0], [(0, .inr (6, [.int ln, .int sn, .ref 1])), (1, .inl (1, 24, .inr (.inl it)))]) [] rfl trivial ?_
    obtain ⟨r4, h5, hF⟩ := gbind hF
    refine Tk_v0 qX6_takeItems 12 rfl (c_X6_refusal ln sn ln j k r4 h5) kX6_26_6 0 rfl rfl [0] rfl rfl rfl rfl ⟨rfl, rfl, by decide, by decide⟩ [] rfl (Nat.le_of_ble_eq_true rfl) [.int r4] rfl [(0, .inr (6, [.int ln, .int sn, .ref 1])), (1, .inl (1, 24, .inr (.inl it)))] rfl ?_
    refine Ti_ne qX6_takeItems 13 18 43 rfl rfl (fun hb6 => ?_) (fun hb6 => ?_)
    · replace hF := gneg hb6 hF
      obtain rfl := Option.some.inj hF
      exact Tr_v qX6_takeItems 22 rfl rfl ⟨rfl, rfl⟩
    · replace hF := gpos hb6 hF
      refine Go.run qX6_takeItems IX6_ok 14 7 (40, [(0, .ref 0), (1, .ref 0), (2, .int i), (3, .int j), (4, .int k)], [.int k, .int j, .ref 1, .int i, .ref 1], [(0, .inr (6, [.int ln, .int sn, .ref 1])), (1, .inl (1, 24, .inr (.inl it)))]) [] rfl trivial ?_
      obtain ⟨hc7, hF⟩ := gif hF
      refine Tx_l qX6_takeItems 21 rfl kcX6_30 rfl rfl hc7 (by decide) (by decide) (Nat.le_of_ble_eq_true rfl) [(0, .inr (6, [.int ln, .int sn, .ref 1])), (1, .inl (1, 24, .inr (.inl (va_cpy it it i.toNatClampNeg j.toNatClampNeg k.toNatClampNeg))))] rfl ?_
      obtain rfl := Option.some.inj hF
      exact Tr_v qX6_takeItems 22 rfl rfl ⟨rfl, rfl⟩
