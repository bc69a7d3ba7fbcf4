/-! market: the whole. -/
section Mkt4
variable {T P L : Nat} {fo tu : Int32} {f pf g xs ys laws fx fy fan lf stX stY : Nat → Int32}
noncomputable def kM9 (L K : Nat) (j : Int32) (l5 l6 _ : Int32) (a16 : Nat → Int32) : Option (Int32 × (Nat → Int32)) := if 0 ≤ l5 then ((F_X9_lays (nI L) a16 l5 (nI K)).bind fun r13 => if 0 ≤ j then (if gvp j 4 then (some ((r13.2 j.toNatClampNeg), r13.2)) else none) else (some (l6, r13.2))) else (some ((-4), a16))
theorem market_9 {K : Nat} {x y j : Int32} {laid : Nat → Int32} (hT : T < 2 ^ 31) (hL : L < 2 ^ 31) (hKT : K ≤ T) (hKL : K ≤ L) (h1 : inb (nI K).toInt 1 4 = true) (h2 : ptB x y = true) (h3 : inb j.toInt (-1) ((nI K).toInt - 1) = true) (hK : K ≤ 4) : F_X9_market (nI T) (nI L) fan g laws stX stY laid (nI K) x y j = FL_X9_market_67 (nI L) fan g laws stX stY (nI K) x y (kM9 L K j) gN0 (-4) 0 0 laid := by
  unfold F_X9_market
  rw [in_mod32, show inb (nI K).toInt (1 : Int64).toInt (4 : Int64).toInt = true from h1, Option.bind_some, gB_t, if_neg (show ¬ (1 : Int32) = 0 by decide), isPoint_mod, h2, Option.bind_some, gB_t, if_neg (show ¬ (1 : Int32) = 0 by decide), in_mod32, i64_of, nI_m1 (by omega)]
  rw [nI_toInt (by omega)] at h3
  rw [show inb j.toInt (-1 : Int64).toInt ((K : Int) - 1) = true from h3, Option.bind_some, gB_t, if_neg (show ¬ (1 : Int32) = 0 by decide), if_neg (nI_nlt hKT hT), if_pos (nI_le hKL hL)]
  rfl
theorem least_8 {K : Nat} {x y : Int32} {df df' tr ch : Nat → Int32} (hK : K ≤ 4) (hL : L ≤ 8) (hb : F_X3_bring df (nI T) fo tu f (nI K) = some (nI K, fo, tu, df')) : F_X3_leastWays df tr ch (nI T) fo tu f (nI L) lf fx fy (nI K) x y = FL_X3_leastWays_50 (nI L) lf fx fy (nI K) x y (nI L) (nI (L ^ K)) (nI K) fo tu (fun l8_50 l9_50 a2_50 a3_50 a4_50 => some (l8_50, nI K, fo, tu, a2_50, a3_50, a4_50)) gN0 (-4) 0 df' tr ch := by
  have hg := gN0_big
  unfold F_X3_leastWays F_X4_size
  rw [hb, Option.bind_some, Option.bind_some]
  exact rows_pow hL hK (fun l7_24 _ => FL_X3_leastWays_50 (nI L) lf fx fy (nI K) x y (nI L) l7_24 (nI K) fo tu (fun l8_50 l9_50 a2_50 a3_50 a4_50 => some (l8_50, nI K, fo, tu, a2_50, a3_50, a4_50)) gN0 (-4) 0 df' tr ch) K 0 gN0 (by omega) (by omega)
theorem eq_market (h : SR T P fo tu f pf g xs ys laws) (hfr : FR fx fy fan) (hl : LR L lf stX stY) (dz dfo dtu : Int32) (df tr ch laid : Nat → Int32) (k x y j : Int32) : ∃ (r dz' dfo' dtu' : Int32) (df' tr' ch' laid' : Nat → Int32), F_X8_market fx fy (nI T) fo tu f (nI L) lf dz dfo dtu df tr ch k x y j = some (r, dz', dfo', dtu', df', tr', ch') ∧ F_X9_market (nI T) (nI L) fan g laws stX stY laid k x y j = some (r, laid') := by
  have hT := h.1
  have hL := hl.1
  have hgn := gN0_big
  have k1 : (k < 1) ↔ k.toInt < 1 := gI_lt k 1
  have k4 : (4 < k) ↔ 4 < k.toInt := gI_lt 4 k
  have j1 : (j < -1) ↔ j.toInt < -1 := gI_lt j (-1)
  have jk : (j < k) ↔ j.toInt < k.toInt := gI_lt j k
  have bad8 : (inb k.toInt 1 4 = false ∨ ptB x y = false ∨ inb j.toInt (-1) (k.toInt - 1) = false) → F_X8_market fx fy (nI T) fo tu f (nI L) lf dz dfo dtu df tr ch k x y j = some (-1, dz, dfo, dtu, df, tr, ch) := by
    intro hb
    unfold F_X8_market
    by_cases q1 : k < 1
    · rw [if_pos q1]
    · rw [if_neg q1]
      by_cases q2 : 4 < k
      · rw [if_pos q2]
      · rw [if_neg q2, isPoint_cls, Option.bind_some, gB_if]
        rw [k1] at q1
        rw [k4] at q2
        have e1 : inb k.toInt 1 4 = true := inb_t.mpr (by omega)
        cases q3 : ptB x y
        · rw [if_neg (by decide)]
        · rw [if_pos rfl]
          by_cases q4 : j < -1
          · rw [if_pos q4]
          · rw [if_neg q4]
            by_cases q5 : j < k
            · exfalso
              rw [j1] at q4
              rw [jk] at q5
              have e2 : inb j.toInt (-1) (k.toInt - 1) = true := inb_t.mpr (by omega)
              rw [e1, q3, e2] at hb
              rcases hb with z | z | z <;> cases z
            · rw [if_neg q5]
  have e9 : inb k.toInt 1 4 = true → (k - 1).toInt = k.toInt - 1 := by
    intro z
    have := inb_t.mp z
    rw [fb_subI] <;> rw [show (1 : Int32).toInt = 1 from rfl] <;> omega
  cases h1 : inb k.toInt 1 4
  · refine ⟨_, _, _, _, _, _, _, laid, bad8 (Or.inl h1), ?_⟩
    unfold F_X9_market
    rw [in_mod32, show inb k.toInt (1 : Int64).toInt (4 : Int64).toInt = false from h1, Option.bind_some, gB_f, if_pos rfl]
  · cases h2 : ptB x y
    · refine ⟨_, _, _, _, _, _, _, laid, bad8 (Or.inr (Or.inl h2)), ?_⟩
      unfold F_X9_market
      rw [in_mod32, show inb k.toInt (1 : Int64).toInt (4 : Int64).toInt = true from h1, Option.bind_some, gB_t, if_neg (show ¬ (1 : Int32) = 0 by decide), isPoint_mod, h2, Option.bind_some, gB_f, if_pos rfl]
    · cases h3 : inb j.toInt (-1) (k.toInt - 1)
      · refine ⟨_, _, _, _, _, _, _, laid, bad8 (Or.inr (Or.inr h3)), ?_⟩
        unfold F_X9_market
        rw [in_mod32, show inb k.toInt (1 : Int64).toInt (4 : Int64).toInt = true from h1, Option.bind_some, gB_t, if_neg (show ¬ (1 : Int32) = 0 by decide), isPoint_mod, h2, Option.bind_some, gB_t, if_neg (show ¬ (1 : Int32) = 0 by decide), in_mod32, i64_of, e9 h1, show inb j.toInt (-1 : Int64).toInt (k.toInt - 1) = false from h3, Option.bind_some, gB_f, if_pos rfl]
      · have z1 := inb_t.mp h1
        have z3 := inb_t.mp h3
        obtain ⟨K, hK31, rfl, eK⟩ := nonneg_nI (i := k) (by omega)
        have hK1 : 1 ≤ K := by omega
        have hK4 : K ≤ 4 := by omega
        have pre8 : F_X8_market fx fy (nI T) fo tu f (nI L) lf dz dfo dtu df tr ch (nI K) x y j = if nI T < nI K then (some ((-2), dz, dfo, dtu, df, tr, ch)) else (if nI K ≤ nI L then ((F_X3_leastWays df tr ch (nI T) fo tu f (nI L) lf fx fy (nI K) x y).bind fun r14 => if 0 ≤ r14.1 then (if 0 ≤ j then ((F_X3_stallOf r14.2.2.2.2.2.2 j).bind fun r18 => some (r18, r14.2.1, r14.2.2.1, r14.2.2.2.1, r14.2.2.2.2.1, r14.2.2.2.2.2.1, r14.2.2.2.2.2.2)) else (some (r14.1, r14.2.1, r14.2.2.1, r14.2.2.2.1, r14.2.2.2.2.1, r14.2.2.2.2.2.1, r14.2.2.2.2.2.2))) else (some ((-4), r14.2.1, r14.2.2.1, r14.2.2.2.1, r14.2.2.2.2.1, r14.2.2.2.2.2.1, r14.2.2.2.2.2.2))) else (some ((-2), dz, dfo, dtu, df, tr, ch))) := by
          unfold F_X8_market F_X4_size
          rw [if_neg (by rw [k1]; omega), if_neg (by rw [k4]; omega), isPoint_cls, h2, Option.bind_some, gB_t, if_neg (show ¬ (1 : Int32) = 0 by decide), if_neg (by rw [j1]; omega), if_pos (by rw [jk]; omega), Option.bind_some, Option.bind_some]
        rw [pre8]
        rcases Nat.lt_or_ge T K with q | hKT
        · refine ⟨_, _, _, _, _, _, _, laid, if_pos (nI_lt q hK31), ?_⟩
          unfold F_X9_market
          rw [in_mod32, show inb (nI K).toInt (1 : Int64).toInt (4 : Int64).toInt = true from h1, Option.bind_some, gB_t, if_neg (show ¬ (1 : Int32) = 0 by decide), isPoint_mod, h2, Option.bind_some, gB_t, if_neg (show ¬ (1 : Int32) = 0 by decide), in_mod32, i64_of, e9 h1, show inb j.toInt (-1 : Int64).toInt ((nI K).toInt - 1) = true from h3, Option.bind_some, gB_t, if_neg (show ¬ (1 : Int32) = 0 by decide), if_pos (nI_lt q hK31)]
        · rw [if_neg (nI_nlt hKT (by omega))]
          rcases Nat.lt_or_ge L K with q | hKL
          · refine ⟨_, _, _, _, _, _, _, laid, if_neg (nI_ge q hK31), ?_⟩
            unfold F_X9_market
            rw [in_mod32, show inb (nI K).toInt (1 : Int64).toInt (4 : Int64).toInt = true from h1, Option.bind_some, gB_t, if_neg (show ¬ (1 : Int32) = 0 by decide), isPoint_mod, h2, Option.bind_some, gB_t, if_neg (show ¬ (1 : Int32) = 0 by decide), in_mod32, i64_of, e9 h1, show inb j.toInt (-1 : Int64).toInt ((nI K).toInt - 1) = true from h3, Option.bind_some, gB_t, if_neg (show ¬ (1 : Int32) = 0 by decide), if_neg (nI_nlt hKT (by omega)), if_neg (nI_ge q hK31)]
          · rw [if_pos (nI_le hKL (by omega)), market_9 (by omega) (by omega) hKT hKL h1 h2 h3 hK4]
            obtain ⟨df0, b1, b2⟩ := bring_cls h hKT hK4 df
            have h8 := p8_le hK4
            rw [least_8 hK4 hL b1]
            obtain ⟨l8, lc, l5, l6, lm, df', tr', ch', laid', s1, s2, s3⟩ := search h hfr hl hK1 hK4 hKT hKL (ptB_t.mp h2) (fun l8_50 l9_50 a2_50 a3_50 a4_50 => some (l8_50, nI K, fo, tu, a2_50, a3_50, a4_50)) (kM9 L K j) (8 ^ K) 0 gN0 gN0 (-4) (-4) 0 df0 tr ch laid (by omega) (by omega) (by omega) b2 (Or.inl ⟨rfl, rfl⟩)
            rw [rk_0' (show 1 ≤ L by omega) K] at s1
            have s1' : FL_X3_leastWays_50 (nI L) lf fx fy (nI K) x y (nI L) (nI (L ^ K)) (nI K) fo tu (fun l8_50 l9_50 a2_50 a3_50 a4_50 => some (l8_50, nI K, fo, tu, a2_50, a3_50, a4_50)) gN0 (-4) 0 df0 tr ch = _ := s1
            have s2' : FL_X9_market_67 (nI L) fan g laws stX stY (nI K) x y (kM9 L K j) gN0 (-4) 0 0 laid = _ := s2
            rw [s1', s2', Option.bind_some]
            unfold kM9
            rcases s3 with ⟨rfl, rfl⟩ | ⟨b, hb, rfl, rfl, hn, hch⟩
            · rw [if_neg (show ¬ (0 : Int32) ≤ -4 by decide), if_neg (show ¬ (0 : Int32) ≤ -4 by decide)]
              exact ⟨_, _, _, _, _, _, _, _, rfl, rfl⟩
            · rw [if_pos (nlt_le hn), if_pos (nI_pos' (by omega)), lays_mod hL hK4 (by omega), Option.bind_some]
              by_cases hj : 0 ≤ j
              · rw [if_pos hj, if_pos hj]
                have hj' := hj
                rw [gI_le, i0] at hj'
                obtain ⟨J, hJ, rfl, eJ⟩ := nonneg_nI hj'
                have hJK : J < K := by omega
                have cJ : (nI J).toNatClampNeg = J := nI_clamp hJ
                have gJ : gvp (nI J) 4 := gvp_nI (by omega) (by omega)
                unfold F_X3_stallOf
                simp only [if_neg (nI_neg J hJ), if_neg (show ¬ (4 : Int32) ≤ nI J from nI_ge (b := 4) (by omega) (by omega)), if_pos gJ, cJ, Option.bind_some]
                rw [layF_at hJK, hch J hJK]
                exact ⟨_, _, _, _, _, _, _, _, rfl, rfl⟩
              · rw [if_neg hj, if_neg hj]
                exact ⟨_, _, _, _, _, _, _, _, rfl, rfl⟩
end Mkt4
