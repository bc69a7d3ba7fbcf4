/-! market: what one row of stalls gives, both sides. -/
/-- the things laid: their breadths, at rest -/
def DF (K : Nat) (f df : Nat → Int32) : Prop := ∀ t, t < K → df (5 * t + 2) = f (5 * t + 2) ∧ df (5 * t + 3) = 0 ∧ df (5 * t + 4) = 0
/-- where they are laid -/
def PD (K : Nat) (df stX stY : Nat → Int32) (s : Nat → Nat) : Prop := ∀ t, t < K → df (5 * t) = stX (s t) ∧ df (5 * t + 1) = stY (s t)
def wsm (stX stY : Nat → Int32) (x y : Int32) (s : Nat → Nat) : Nat → Int32
  | 0 => 0
  | t + 1 => wsm stX stY x y s t + (gabs (stX (s t) - x) + gabs (stY (s t) - y))
theorem gabs_rg {v : Int32} {A : Int} (h : Rg v (-A) A) (hA : A < 2147483648) : Rg (gabs v) 0 A := by
  unfold gabs
  by_cases h0 : 0 ≤ v
  · rw [if_pos h0]
    rw [gI_le, i0] at h0
    exact ⟨h0, h.2⟩
  · rw [if_neg h0, sub0]
    rw [gI_le, i0] at h0
    have e := fb_negI (x := v) (by omega)
    exact ⟨by omega, by omega⟩
section Mkt
variable {T P S K : Nat} {fo tu : Int32} {f pf g xs ys laws fx fy fan lf stX stY : Nat → Int32}
theorem wsm_rg (hl : LR S lf stX stY) {x y : Int32} (hp : pt x y) {s : Nat → Nat} : ∀ t, t ≤ 4 → (∀ j, j < t → s j < S) → Rg (wsm stX stY x y s t) 0 (40 * t)
  | 0, _, _ => (show Rg (0 : Int32) 0 (40 * (0 : Nat)) from ⟨by decide, by decide⟩)
  | t + 1, ht, hs => by
    have ih := wsm_rg hl hp (s := s) t (by omega) (fun j hj => hs j (by omega))
    obtain ⟨-, -, q⟩ := hl.2 (s t) (hs t (by omega))
    obtain ⟨-, r1⟩ := Rg.sub q.1 hp.1 (by omega) (by omega)
    obtain ⟨-, r2⟩ := Rg.sub q.2 hp.2 (by omega) (by omega)
    have a1 := gabs_rg (A := 20) (r1.wide (by omega) (by omega)) (by omega)
    have a2 := gabs_rg (A := 20) (r2.wide (by omega) (by omega)) (by omega)
    obtain ⟨-, r3⟩ := Rg.add a1 a2 (by omega) (by omega)
    obtain ⟨-, r4⟩ := Rg.add ih r3 (by omega) (by omega)
    exact r4.wide (by omega) (by omega)
theorem DF.scene (h : SR T P fo tu f pf g xs ys laws) (hl : LR S lf stX stY) (hKT : K ≤ T) (hK : K ≤ 4) {df : Nat → Int32} {s : Nat → Nat} (hs : ∀ j, j < K → s j < S) (hD : DF K f df) (hP : PD K df stX stY s) : SR K 0 fo tu df df df df df (fun i => if i = 0 then fo else tu) := by
  obtain ⟨q1, q2, q3, q4, q5, q6, q7, q8, q9⟩ := h
  refine ⟨by omega, by omega, fun t ht => ?_, fun i hi => rfl, fun k hk => by omega, rfl, rfl, q8, q9⟩
  obtain ⟨d1, d2, d3⟩ := hD t ht
  obtain ⟨p1, p2⟩ := hP t ht
  obtain ⟨-, -, q⟩ := hl.2 (s t) (hs t ht)
  rw [d1, d2, d3, p1, p2]
  exact ⟨q.1, q.2, (q3 t (by omega)).2.2.1, ⟨by decide, by decide⟩, ⟨by decide, by decide⟩⟩
/-- the things brought -/
theorem bring_loop (h : SR T P fo tu f pf g xs ys laws) (hKT : K ≤ T) (hK : K ≤ 4) (kk : Int32 → Int32 → (Nat → Int32) → Option (Int32 × Int32 × Int32 × (Nat → Int32))) : ∀ (d t fu : Nat) (df : Nat → Int32), t + d = K → d < fu → DF t f df → ∃ df', FL_X3_bring_17 (nI T) f (nI K) kk fu (nI t) (nI t) df = kk (nI K) (nI K) df' ∧ DF K f df'
  | 0, t, fu + 1, df, ht, _, hD => by
    have e : t = K := by omega
    subst e
    refine ⟨df, ?_, hD⟩
    unfold FL_X3_bring_17
    rw [if_pos (nI_le (Nat.le_refl _) (by omega))]
  | d + 1, t, fu + 1, df, ht, hfu, hD => by
    have hT := h.1
    obtain ⟨df', h1, h2⟩ := bring_loop h hKT hK kk d (t + 1) fu (thR df t 0 0 (f (5 * t + 2))) (by omega) (by omega) (by
      intro j hj
      rw [thR_at, thR_at, thR_at]
      by_cases e : j = t
      · subst e
        refine ⟨if_pos rfl, ?_, ?_⟩
        · rw [if_neg (by omega), if_neg (by omega), if_neg (by omega), if_pos (by omega)]
        · rw [if_neg (by omega), if_neg (by omega), if_neg (by omega), if_pos (by omega)]
      · obtain ⟨q1, q2, q3⟩ := hD j (by omega)
        refine ⟨?_, ?_, ?_⟩
        · rw [if_neg (by omega), if_neg (by omega), if_neg (by omega), if_neg (by omega)]; exact q1
        · rw [if_neg (by omega), if_neg (by omega), if_neg (by omega), if_neg (by omega)]; exact q2
        · rw [if_neg (by omega), if_neg (by omega), if_neg (by omega), if_neg (by omega)]; exact q3)
    refine ⟨df', ?_, h2⟩
    rw [← h1]
    conv => lhs; unfold FL_X3_bring_17
    rw [if_neg (nI_ge (a := t) (b := K) (by omega) (by omega)), show F_X4_get 5 (nI T) 50 f (nI t) 2 = _ from get_cls (c := 2) hT (by omega) (by omega), Option.bind_some, addThing_cls (by omega), Option.bind_some, nI_1]
theorem bring_cls (h : SR T P fo tu f pf g xs ys laws) (hKT : K ≤ T) (hK : K ≤ 4) (df : Nat → Int32) : ∃ df', F_X3_bring df (nI T) fo tu f (nI K) = some (nI K, fo, tu, df') ∧ DF K f df' := by
  have hg := gN0_big
  obtain ⟨df', h1, h2⟩ := bring_loop h hKT hK (fun l3_17 w1_3_17 a2_17 => some (w1_3_17, fo, tu, a2_17)) K 0 gN0 df (by omega) (by omega) (fun t ht => by omega)
  refine ⟨df', ?_, h2⟩
  unfold F_X3_bring F_X4_empty F_X2_takeLaws
  rw [Option.bind_some, Option.bind_some]
  exact h1
theorem lay_loopC (hl : LR S lf stX stY) (hK : K ≤ 4) {x y : Int32} {tr : Nat → Int32} {s : Nat → Nat} (hs : ∀ j, j < K → s j < S) (htr : ∀ j, j < K → tr j = nI (s j)) (kk : Int32 → Int32 → (Nat → Int32) → Option (Int32 × (Nat → Int32))) : ∀ (d t fu : Nat) (df : Nat → Int32), t + d = K → d < fu → DF K f df → PD t df stX stY s → ∃ df', FL_X3_lay_6 (nI K) tr (nI S) lf (nI K) x y kk fu (wsm stX stY x y s t) (nI t) df = kk (wsm stX stY x y s K) (nI K) df' ∧ DF K f df' ∧ PD K df' stX stY s
  | 0, t, fu + 1, df, ht, _, hD, hP => by
    have e : t = K := by omega
    subst e
    refine ⟨df, ?_, hD, hP⟩
    unfold FL_X3_lay_6
    rw [if_pos (nI_le (Nat.le_refl _) (by omega))]
  | d + 1, t, fu + 1, df, ht, hfu, hD, hP => by
    have hS := hl.1
    have hst := hs t (by omega)
    obtain ⟨l1, l2, -⟩ := hl.2 (s t) hst
    have kt : (nI t).toNatClampNeg = t := nI_clamp (by omega)
    obtain ⟨df', h1, h2, h3⟩ := lay_loopC hl hK hs htr kk d (t + 1) fu (upd (upd df (t * 5 + 0) (stX (s t))) (t * 5 + 1) (stY (s t))) (by omega) (by omega) (by
      intro j hj
      obtain ⟨q1, q2, q3⟩ := hD j hj
      rw [upd_ne _ _ (by omega), upd_ne _ _ (by omega), upd_ne _ _ (by omega), upd_ne _ _ (by omega), upd_ne _ _ (by omega), upd_ne _ _ (by omega)]
      exact ⟨q1, q2, q3⟩) (by
      intro j hj
      by_cases e : j = t
      · subst e
        refine ⟨?_, ?_⟩
        · rw [upd_ne _ _ (by omega), show 5 * j = j * 5 + 0 by omega, upd_self]
        · rw [show 5 * j + 1 = j * 5 + 1 by omega, upd_self]
      · rw [upd_ne _ _ (by omega), upd_ne _ _ (by omega), upd_ne _ _ (by omega), upd_ne _ _ (by omega)]
        exact hP j (by omega))
    refine ⟨df', ?_, h2, h3⟩
    rw [← h1]
    conv => lhs; unfold FL_X3_lay_6
    have g0 : F_X4_get 2 (nI S) 16 lf (nI (s t)) 0 = some (stX (s t)) := by
      rw [l1, Nat.mul_comm]
      exact get_gen (w := 2) (S := S) (n := 16) (r := s t) (c := 0) (f := lf) hst (by omega) (by omega) (by omega) (by omega) (by omega)
    have g1 : F_X4_get 2 (nI S) 16 lf (nI (s t)) 1 = some (stY (s t)) := by
      rw [l2, Nat.mul_comm]
      exact get_gen (w := 2) (S := S) (n := 16) (r := s t) (c := 1) (f := lf) hst (by omega) (by omega) (by omega) (by omega) (by omega)
    have p0 : ∀ (f : Nat → Int32) v, F_X4_put 5 (nI K) 50 f (nI t) 0 v = some (f (t * 5 + 0), upd f (t * 5 + 0) v) := fun f v => put_cls (w := 5) (S := K) (n := 50) (r := t) (c := 0) (by omega) (by omega) (by omega) (by omega) (by omega) (by omega)
    have p1 : ∀ (f : Nat → Int32) v, F_X4_put 5 (nI K) 50 f (nI t) 1 v = some (f (t * 5 + 1), upd f (t * 5 + 1) v) := fun f v => put_cls (w := 5) (S := K) (n := 50) (r := t) (c := 1) (by omega) (by omega) (by omega) (by omega) (by omega) (by omega)
    simp only [if_neg (nI_ge (a := t) (b := K) (by omega) (by omega)), if_neg (show ¬ (4 : Int32) ≤ nI t from nI_ge (b := 4) (by omega) (by omega)), if_pos (show gvp (nI t) 4 from gvp_nI (by omega) (by omega)), kt, htr t (by omega), g0, g1, p0, p1, Option.bind_some, nI_1]
    rfl
theorem ways_loop (hl : LR S lf stX stY) (hK : K ≤ 4) {x y : Int32} {laid : Nat → Int32} {s : Nat → Nat} (hs : ∀ j, j < K → s j < S) (htr : ∀ j, j < K → laid j = nI (s j)) (kk : Int32 → Int32 → Option (Int32 × (Nat → Int32))) : ∀ (d t fu : Nat), t + d = K → d < fu → FL_X9_market_93 stX stY (nI K) x y laid kk fu (wsm stX stY x y s t) (nI t) = kk (wsm stX stY x y s K) (nI K)
  | 0, t, fu + 1, ht, _ => by
    have e : t = K := by omega
    subst e
    unfold FL_X9_market_93
    rw [if_pos (nI_le (Nat.le_refl _) (by omega))]
  | d + 1, t, fu + 1, ht, hfu => by
    have hS := hl.1
    have hst := hs t (by omega)
    have kt : (nI t).toNatClampNeg = t := nI_clamp (by omega)
    have ks : (nI (s t)).toNatClampNeg = s t := nI_clamp (by omega)
    have ih := ways_loop hl hK (x := x) (y := y) hs htr kk d (t + 1) fu (by omega) (by omega)
    rw [← ih]
    conv => lhs; unfold FL_X9_market_93
    simp only [if_neg (nI_ge (a := t) (b := K) (by omega) (by omega)), if_pos (show gvp (nI t) 4 from gvp_nI (by omega) (by omega)), kt, htr t (by omega), if_pos (show gvp (nI (s t)) 8 from gvp_nI (by omega) (by omega)), ks, size_mod, Option.bind_some, nI_1]
    rfl
theorem each_loop (h : SR K 0 fo tu f pf g xs ys laws) (hfr : FR fx fy fan) {x y : Int32} (hp : pt x y) (kk : Int32 → Option Int32) : ∀ (d t fu : Nat), t + d = K → d < fu → FL_X3_eachAlone_3 (nI K) fo tu f fx fy (nI K) x y kk fu (nI t) = if allF (fun t => decide (0 < cnt (fanB f fo tu K fx fy x y t) 80)) t d = true then kk (nI K) else some 0
  | 0, t, fu + 1, ht, _ => by
    have hT := h.1
    have e : t = K := by omega
    subst e
    unfold FL_X3_eachAlone_3
    rw [if_pos (nI_le (Nat.le_refl _) (by omega))]
    rfl
  | d + 1, t, fu + 1, ht, hfu => by
    have hT := h.1
    have ih := each_loop h hfr hp kk d (t + 1) fu (by omega) (by omega)
    unfold FL_X3_eachAlone_3
    rw [if_neg (nI_ge (a := t) (b := K) (by omega) (by omega)), canMean_cls h hfr (by omega) hp, Option.bind_some, gB_if, nI_1, ih]
    show _ = if (decide (0 < cnt (fanB f fo tu K fx fy x y t) 80) && allF (fun t => decide (0 < cnt (fanB f fo tu K fx fy x y t) 80)) (t + 1) d) = true then _ else _
    cases decide (0 < cnt (fanB f fo tu K fx fy x y t) 80) <;> simp
theorem each_cls (h : SR K 0 fo tu f pf g xs ys laws) (hfr : FR fx fy fan) {x y : Int32} (hp : pt x y) : F_X3_eachAlone (nI K) fo tu f fx fy (nI K) x y = some (gB (allF (fun t => decide (0 < cnt (fanB f fo tu K fx fy x y t) 80)) 0 K)) := by
  have hT := h.1
  have hg := gN0_big
  unfold F_X3_eachAlone
  have e := each_loop h hfr hp (fun _ => some 1) K 0 gN0 (by omega) (by omega)
  rw [show nI 0 = (0 : Int32) from rfl] at e
  rw [e]
  cases allF (fun t => decide (0 < cnt (fanB f fo tu K fx fy x y t) 80)) 0 K <;> rfl
theorem mid_0 {df : Nat → Int32} {t ax : Nat} : mid df 0 t ax = df (5 * t + ax) := by
  unfold mid
  rw [Int32.zero_mul, Int32.add_zero]
theorem metOn_loop {df : Nat → Int32} {s : Nat → Nat} {x y dx dy : Int32} {laid : Nat → Int32} (hf : gScn df K) (hK : K ≤ 4) (hS : S ≤ 8) (hs : ∀ j, j < K → s j < S) (hla : ∀ j, j < K → laid j = nI (s j)) (hP : PD K df stX stY s) (hg : ∀ j, j < K → g (5 * j + 2) = df (5 * j + 2)) (hp : pt x y) (ha : arm dx dy) (kk : Int32 → Int32 → Int32 → Int32 → Option Int32) (r : Option Int32)
    (h0 : amin (klt df dx dy 0) (mset df (laws 1) K x y dx dy 0) K = none → ∀ l, kk (nI (mset df (laws 1) K x y dx dy 0)) (-4) l (nI K) = r) (h1 : ∀ k, amin (klt df dx dy 0) (mset df (laws 1) K x y dx dy 0) K = some k → ∀ l, kk (nI (mset df (laws 1) K x y dx dy 0)) (nI k) l (nI K) = r) : ∀ (d i fu : Nat) (a l : Int32), i + d = K → d < fu →
    ((amin (klt df dx dy 0) (mset df (laws 1) K x y dx dy 0) i = none ∧ a = -4) ∨ ∃ k, amin (klt df dx dy 0) (mset df (laws 1) K x y dx dy 0) i = some k ∧ a = nI k ∧ l = (((mid df 0 k 0 - x) * dx) + ((mid df 0 k 1 - y) * dy))) →
    FL_X9_metOn_13 g laws stX stY laid (nI K) x y dx dy kk fu (nI (bset (met df (laws 1) x y dx dy 0) i)) a l (nI i) = r
  | 0, i, fu + 1, a, l, hi, _, hst => by
    have e : i = K := by omega
    subst e
    unfold FL_X9_metOn_13
    rw [if_pos (nI_le (Nat.le_refl _) (by omega))]
    rcases hst with ⟨h, rfl⟩ | ⟨k, h, rfl, -⟩
    · exact h0 h l
    · exact h1 k h l
  | d + 1, i, fu + 1, a, l, hi, hfu, hst => by
    have ih := metOn_loop hf hK hS hs hla hP hg hp ha kk r h0 h1 d (i + 1) fu
    have hsi := hs i (by omega)
    obtain ⟨p1, p2⟩ := hP i (by omega)
    have ki : (nI i).toNatClampNeg = i := nI_clamp (by omega)
    have ks : (nI (s i)).toNatClampNeg = s i := nI_clamp (by omega)
    have e2 : (5 * nI i) + 2 = nI (5 * i + 2) := nI5' i 2
    have k2 : (nI (5 * i + 2)).toNatClampNeg = 5 * i + 2 := nI_clamp (by omega)
    have m0 : stX (s i) = mid df 0 i 0 := by rw [mid_0, Nat.add_zero, p1]
    have m1 : stY (s i) = mid df 0 i 1 := by rw [mid_0, p2]
    have hbit : (mset df (laws 1) K x y dx dy 0).testBit i = met df (laws 1) x y dx dy 0 i := by
      unfold mset
      rw [bset_test]
      simp
      omega
    unfold FL_X9_metOn_13
    simp only [if_neg (nI_ge (a := i) (b := K) (by omega) (by omega)), if_pos (show gvp (nI i) 4 from gvp_nI (by omega) (by omega)), ki, hla i (by omega), if_pos (show gvp (nI (s i)) 8 from gvp_nI (by omega) (by omega)), ks, e2, k2, if_pos (show gvp (nI (5 * i + 2)) 50 from gvp_nI (by omega) (by omega)), hg i (by omega), m0, m1]
    rw [met_mod df df laws, Option.bind_some, gB_if]
    simp only [nI_1]
    rw [bset] at ih
    cases hm : met df (laws 1) x y dx dy 0 i with
    | false =>
      rw [hm] at ih hbit
      rw [if_neg (by decide)]
      have e : amin (klt df dx dy 0) (mset df (laws 1) K x y dx dy 0) (i + 1) = amin (klt df dx dy 0) (mset df (laws 1) K x y dx dy 0) i := by
        rw [amin, if_neg (by rw [hbit]; decide)]
      have ih2 := ih a l (by omega) (by omega) (by rw [e]; exact hst)
      rw [if_neg (by decide), Nat.or_zero] at ih2
      exact ih2
    | true =>
      rw [hm] at ih hbit
      rw [if_pos rfl, nI_shl1 i (by omega), nI_or]
      rw [if_pos rfl] at ih
      rcases hst with ⟨h, rfl⟩ | ⟨k, h, rfl, rfl⟩
      · rw [if_pos (by decide)]
        refine ih _ _ (by omega) (by omega) (Or.inr ⟨i, ?_, rfl, rfl⟩)
        unfold amin
        rw [if_pos hbit, h]
      · have hki := (amin_lt h).1
        rw [if_neg (nI_neg k (by omega))]
        have hcmp : ((((mid df 0 k 0 - x) * dx) + ((mid df 0 k 1 - y) * dy)) ≤ (((mid df 0 i 0 - x) * dx) + ((mid df 0 i 1 - y) * dy))) ↔ ¬ key df dx dy 0 i < key df dx dy 0 k := by
          rw [gI_le, gI_lt, e_key hf (by omega) hp ha rg0, e_key hf (by omega) hp ha rg0]
          omega
        by_cases hl : key df dx dy 0 i < key df dx dy 0 k
        · rw [if_neg (by rw [hcmp]; exact fun z => z hl)]
          refine ih _ _ (by omega) (by omega) (Or.inr ⟨i, ?_, rfl, rfl⟩)
          unfold amin
          rw [if_pos hbit, h]
          simp [klt, hl]
        · rw [if_pos (hcmp.mpr hl)]
          refine ih _ _ (by omega) (by omega) (Or.inr ⟨k, ?_, rfl, rfl⟩)
          unfold amin
          rw [if_pos hbit, h]
          simp [klt, hl]
theorem metOn_mod {df : Nat → Int32} {s : Nat → Nat} {x y dx dy : Int32} {laid : Nat → Int32} (hf : gScn df K) (hK : K ≤ 4) (hS : S ≤ 8) (hs : ∀ j, j < K → s j < S) (hla : ∀ j, j < K → laid j = nI (s j)) (hP : PD K df stX stY s) (hg : ∀ j, j < K → g (5 * j + 2) = df (5 * j + 2)) (hp : pt x y) (ha : arm dx dy) : F_X9_metOn g laws stX stY laid (nI K) x y dx dy = some (nI (mean df (laws 0) (laws 1) K x y dx dy 0)) := by
  have hgn := gN0_big
  unfold F_X9_metOn
  refine metOn_loop (laws := laws) hf hK hS hs hla hP hg hp ha _ _ ?_ ?_ K 0 gN0 (-4) 0 (by omega) (by omega) (Or.inl ⟨rfl, rfl⟩)
  · intro h l
    unfold mean nar
    by_cases h0 : laws 0 = 0
    · rw [if_pos h0, if_pos h0]
    · rw [if_neg h0, if_neg h0, h, if_neg (by decide)]
  · intro k h l
    unfold mean nar
    have hk := (amin_lt h).1
    by_cases h0 : laws 0 = 0
    · rw [if_pos h0, if_pos h0]
    · rw [if_neg h0, if_neg h0, h, if_pos (nI_pos' (by omega)), nI_shl1 k (by omega)]
end Mkt
