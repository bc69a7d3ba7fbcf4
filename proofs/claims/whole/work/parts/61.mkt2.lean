/-! market: which rows are clear; the search of both sides. -/
/-- what the single arms mean, together -/
def osum (m : Nat → Nat) : Nat → Nat
  | 0 => 0
  | k + 1 => osum m k ||| (if sgl (m k) = true then m k else 0)
theorem sgl_bit : ∀ s : Nat, s < 16 → ∀ t : Nat, t < 4 → (sgl s && s.testBit t) = decide (s = 2 ^ t) := by
  have key : ∀ s : Fin 16, ∀ t : Fin 4, (sgl s.val && s.val.testBit t.val) = decide (s.val = 2 ^ t.val) := by decide +kernel
  exact fun s hs t ht => key ⟨s, hs⟩ ⟨t, ht⟩
theorem anyF_end {p : Nat → Bool} : ∀ (d i : Nat), anyF p i (d + 1) = (anyF p i d || p (i + d))
  | 0, i => by
    show (p i || false) = (false || p (i + 0))
    rw [Bool.or_false, Bool.false_or, Nat.add_zero]
  | d + 1, i => by
    show (p i || anyF p (i + 1) (d + 1)) = ((p i || anyF p (i + 1) d) || p (i + (d + 1)))
    rw [anyF_end d (i + 1), Bool.or_assoc, show i + 1 + d = i + (d + 1) by omega]
theorem osum_bit {m : Nat → Nat} (hm : ∀ k, m k < 16) {t : Nat} (ht : t < 4) : ∀ n, (osum m n).testBit t = anyF (fun k => decide (m k = 2 ^ t)) 0 n
  | 0 => by simp [osum, anyF]
  | n + 1 => by
    rw [osum, Nat.testBit_or, osum_bit hm ht n, anyF_end, Nat.zero_add]
    congr 1
    show _ = decide (m n = 2 ^ t)
    rw [← sgl_bit (m n) (hm n) t ht]
    cases sgl (m n)
    · simp
    · simp
theorem osum_lt {m : Nat → Nat} {K : Nat} (hm : ∀ k, m k < 2 ^ K) : ∀ n, osum m n < 2 ^ K
  | 0 => Nat.two_pow_pos K
  | n + 1 => by
    rw [osum]
    refine Nat.or_lt_two_pow (osum_lt hm n) ?_
    by_cases h : sgl (m n) = true
    · rw [if_pos h]
      exact hm n
    · rw [if_neg h]
      exact Nat.two_pow_pos K
theorem allF_iff {p : Nat → Bool} : ∀ {d i : Nat}, allF p i d = true ↔ ∀ o, i ≤ o → o < i + d → p o = true
  | 0, i => ⟨fun _ o h1 h2 => by omega, fun _ => rfl⟩
  | d + 1, i => by
    have ih := allF_iff (p := p) (d := d) (i := i + 1)
    show (p i && allF p (i + 1) d) = true ↔ _
    rw [Bool.and_eq_true, ih]
    constructor
    · rintro ⟨h1, h2⟩ o h3 h4
      by_cases e : o = i
      · rw [e]
        exact h1
      · exact h2 o (by omega) (by omega)
    · intro h
      exact ⟨h i (by omega) (by omega), fun o h1 h2 => h o (by omega) (by omega)⟩
theorem clear_iff {m : Nat → Nat} {K : Nat} (hK : K ≤ 4) (hm : ∀ k, m k < 2 ^ K) : decide (osum m 80 = 2 ^ K - 1) = allF (fun t => decide (0 < cnt (fun k => decide (m k = 2 ^ t)) 80)) 0 K := by
  have hm16 : ∀ k, m k < 16 := fun k => Nat.lt_of_lt_of_le (hm k) (Nat.pow_le_pow_right (n := 2) (by decide) hK)
  have hlt := osum_lt hm 80
  apply Bool.eq_iff_iff.mpr
  rw [decide_eq_true_eq, allF_iff]
  constructor
  · intro h o _ ho
    rw [cnt_any, ← osum_bit hm16 (by omega), h, Nat.testBit_two_pow_sub_one]
    simp
    omega
  · intro h
    apply Nat.eq_of_testBit_eq
    intro i
    rw [Nat.testBit_two_pow_sub_one]
    by_cases hi : i < K
    · have := h i (by omega) (by omega)
      rw [cnt_any, ← osum_bit hm16 (by omega)] at this
      rw [this]
      simp [hi]
    · rw [Nat.testBit_lt_two_pow (Nat.lt_of_lt_of_le hlt (Nat.pow_le_pow_right (by decide) (by omega)))]
      simp [hi]
section Mkt2
variable {T P S K : Nat} {fo tu : Int32} {f pf g xs ys laws fx fy fan lf stX stY : Nat → Int32}
theorem clear_loop {df : Nat → Int32} {s : Nat → Nat} {x y : Int32} {laid : Nat → Int32} (hfr : FR fx fy fan) (hf : gScn df K) (hK : K ≤ 4) (hS : S ≤ 8) (hs : ∀ j, j < K → s j < S) (hla : ∀ j, j < K → laid j = nI (s j)) (hP : PD K df stX stY s) (hg : ∀ j, j < K → g (5 * j + 2) = df (5 * j + 2)) (hp : pt x y) (kk : Int32 → Int32 → Option Int32) : ∀ (d i fu : Nat), i + d = 80 → d < fu → FL_X9_isClear_6 fan g laws stX stY laid (nI K) x y kk fu (nI (osum (fun k => mean df (laws 0) (laws 1) K x y (fx k) (fy k) 0) i)) (nI i) = kk (nI (osum (fun k => mean df (laws 0) (laws 1) K x y (fx k) (fy k) 0) 80)) (nI 80)
  | 0, i, fu + 1, hi, _ => by
    have e : i = 80 := by omega
    subst e
    unfold FL_X9_isClear_6
    rw [if_pos (by decide)]
  | d + 1, i, fu + 1, hi, hfu => by
    have ih := clear_loop hfr hf hK hS hs hla hP hg hp kk d (i + 1) fu (by omega) (by omega)
    obtain ⟨r1, r2, r3⟩ := hfr i (by omega)
    have k0 : (nI i).toNatClampNeg = i := nI_clamp (by omega)
    have e1 : 80 + nI i = nI (80 + i) := nI_add 80 i
    have k1 : (nI (80 + i)).toNatClampNeg = 80 + i := nI_clamp (by omega)
    have hlt : mean df (laws 0) (laws 1) K x y (fx i) (fy i) 0 < 1024 := by
      have h1 : mean df (laws 0) (laws 1) K x y (fx i) (fy i) 0 < 2 ^ K := nar_lt (mset_lt _ _ _ _ _ _ _ _)
      exact Nat.lt_of_lt_of_le h1 (Nat.le_trans (Nat.pow_le_pow_right (n := 2) (by decide) hK) (by decide))
    rw [← ih]
    conv => lhs; unfold FL_X9_isClear_6
    simp only [if_neg (show ¬ (80 : Int32) ≤ nI i from nI_ge (b := 80) (by omega) (by omega)), if_pos (show gvp (nI i) 160 from gvp_nI (by omega) (by omega)), e1, if_pos (show gvp (nI (80 + i)) 160 from gvp_nI (by omega) (by omega)), k0, k1, r1, r2]
    rw [metOn_mod (laws := laws) hf hK hS hs hla hP hg hp r3, Option.bind_some, isSingle_mod _ hlt, Option.bind_some, gB_if, nI_1]
    rw [osum]
    cases hc : sgl (mean df (laws 0) (laws 1) K x y (fx i) (fy i) 0)
    · rw [if_neg (by decide), nI_or0, if_neg (by decide), Nat.or_zero]
    · rw [if_pos rfl, nI_or, if_pos rfl]
theorem clear_mod {df : Nat → Int32} {s : Nat → Nat} {x y : Int32} {laid : Nat → Int32} (hfr : FR fx fy fan) (hf : gScn df K) (hK : K ≤ 4) (hS : S ≤ 8) (hs : ∀ j, j < K → s j < S) (hla : ∀ j, j < K → laid j = nI (s j)) (hP : PD K df stX stY s) (hg : ∀ j, j < K → g (5 * j + 2) = df (5 * j + 2)) (hp : pt x y) : F_X9_isClear fan g laws stX stY laid (nI K) x y = some (gB (allF (fun t => decide (0 < cnt (fanB df (laws 0) (laws 1) K fx fy x y t) 80)) 0 K)) := by
  have hgn := gN0_big
  have hm : ∀ k, (fun k => mean df (laws 0) (laws 1) K x y (fx k) (fy k) 0) k < 2 ^ K := fun k => nar_lt (mset_lt _ _ _ _ _ _ _ _)
  have hlt := osum_lt hm 80
  have h16 : 2 ^ K ≤ 16 := Nat.pow_le_pow_right (n := 2) (by decide) hK
  have hpos := Nat.two_pow_pos K
  unfold F_X9_isClear
  have e := clear_loop (laws := laws) hfr hf hK hS hs hla hP hg hp (fun l4_6 l5_6 => if l4_6 = ((1 <<< (nI K &&& 31)) - 1) then (some 1) else (some 0)) 80 0 gN0 (by omega) (by omega)
  have e' : FL_X9_isClear_6 fan g laws stX stY laid (nI K) x y (fun l4_6 l5_6 => if l4_6 = ((1 <<< (nI K &&& 31)) - 1) then (some 1) else (some 0)) gN0 0 0 = _ := e
  rw [e', nI_shl1 K (by omega), show 2 ^ K = (2 ^ K - 1) + 1 by omega, nI_pred]
  have c := clear_iff hK hm
  show _ = some (gB (allF (fun t => decide (0 < cnt (fun k => decide ((fun k => mean df (laws 0) (laws 1) K x y (fx k) (fy k) 0) k = 2 ^ t)) 80)) 0 K))
  rw [← c]
  have q : (nI (osum (fun k => mean df (laws 0) (laws 1) K x y (fx k) (fy k) 0) 80) = nI (2 ^ K - 1)) ↔ osum (fun k => mean df (laws 0) (laws 1) K x y (fx k) (fy k) 0) 80 = 2 ^ K - 1 := nI_eq (by omega) (by omega)
  by_cases h : osum (fun k => mean df (laws 0) (laws 1) K x y (fx k) (fy k) 0) 80 = 2 ^ K - 1
  · rw [if_pos (q.mpr h), decide_eq_true h]
    rfl
  · rw [if_neg (fun z => h (q.mp z)), decide_eq_false h]
    rfl
/-- one row of stalls, both sides -/
theorem row_both (h : SR T P fo tu f pf g xs ys laws) (hfr : FR fx fy fan) (hl : LR S lf stX stY) (hKT : K ≤ T) (hK : K ≤ 4) {x y : Int32} (hp : pt x y) {df tr laid : Nat → Int32} {s : Nat → Nat} (hs : ∀ j, j < K → s j < S) (htr : ∀ j, j < K → tr j = nI (s j)) (hla : ∀ j, j < K → laid j = nI (s j)) (hD : DF K f df) : ∃ (W : Int32) (df' : Nat → Int32) (b : Bool), F_X3_lay (nI K) df tr (nI S) lf (nI K) x y = some (W, df') ∧ DF K f df' ∧ F_X3_eachAlone (nI K) fo tu df' fx fy (nI K) x y = some (gB b) ∧ (∀ kk : Int32 → Int32 → Option (Int32 × (Nat → Int32)), FL_X9_market_93 stX stY (nI K) x y laid kk gN0 0 0 = kk W (nI K)) ∧ F_X9_isClear fan g laws stX stY laid (nI K) x y = some (gB b) ∧ ¬ W < 0 := by
  have hgn := gN0_big
  obtain ⟨df', l1, l2, l3⟩ := lay_loopC hl hK (x := x) (y := y) hs htr (fun l5_6 l6_6 a2_6 => some (l5_6, a2_6)) K 0 gN0 df (by omega) (by omega) hD (fun t ht => by omega)
  have sc := DF.scene h hl hKT hK hs l2 l3
  refine ⟨wsm stX stY x y s K, df', _, l1, l2, each_cls sc hfr hp, fun kk => ways_loop hl hK hs hla kk K 0 gN0 (by omega) (by omega), ?_, ?_⟩
  · obtain ⟨q1, q2, q3, q4, q5, q6, q7, -⟩ := h
    have := clear_mod (laws := laws) (g := g) hfr sc.2.2.1 hK hl.1 hs hla l3 (fun j hj => by rw [q4 _ (by omega), (l2 j hj).1]) hp
    rw [q6, q7] at this
    exact this
  · have r := wsm_rg hl hp (s := s) K hK hs
    rw [gI_lt, i0]
    omega
end Mkt2
