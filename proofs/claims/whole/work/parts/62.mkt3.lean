/-! market: the two searches go side by side. -/
section Mkt3
variable {T P S K : Nat} {fo tu : Int32} {f pf g xs ys laws fx fy fan lf stX stY : Nat → Int32}
/-- what was found so far, in class and model -/
def MS (K : Nat) (l8 l5 l6 : Int32) (ch : Nat → Int32) : Prop := (l8 = -4 ∧ l5 = -4) ∨ (∃ b : Nat, b < 8 ^ K ∧ l5 = nI b ∧ l6 = l8 ∧ ¬ l8 < 0 ∧ ∀ t, t < K → ch t = nI (dM b (K - 1 - t)))
theorem g4 : gcp 0 0 4 4 4 := ⟨by decide, by decide, by decide, by decide, by decide⟩
theorem nlt_le {v : Int32} (h : ¬ v < 0) : 0 ≤ v := by
  rw [gI_lt, i0] at h
  rw [gI_le, i0]
  omega
/-- one code of the model that is no row of the class -/
theorem mod_bad {x y : Int32} {km : Int32 → Int32 → Int32 → (Nat → Int32) → Option (Int32 × (Nat → Int32))} {fu c : Nat} {l5 l6 : Int32} {laid : Nat → Int32} (hS : S ≤ 8) (h1 : 1 ≤ K) (hK : K ≤ 4) (hc : c < 8 ^ K) (hv : (gdt S K c K && vN K c K) = false) : FL_X9_market_67 (nI S) fan g laws stX stY (nI K) x y km (fu + 1) l5 l6 (nI c) laid = FL_X9_market_67 (nI S) fan g laws stX stY (nI K) x y km fu l5 l6 (nI (c + 1)) (layF 8 c K laid) := by
  have h8 := p8_le hK
  have e3 : 3 * nI K = nI (3 * K) := pk_mul 3 K
  have e8 : 2 ^ (3 * K) = 8 ^ K := Nat.pow_mul 2 3 K
  conv => lhs; unfold FL_X9_market_67
  rw [e3, nI_shl1 (3 * K) (by omega), e8, if_neg (nI_ge hc (by omega)), lays_mod hS hK (by omega), Option.bind_some, vb_eq hS K (Nat.le_refl _), hv, gB_f, if_pos rfl, nI_1]
theorem mod_good {x y : Int32} {km : Int32 → Int32 → Int32 → (Nat → Int32) → Option (Int32 × (Nat → Int32))} {fu c : Nat} {l5 l6 W : Int32} {laid : Nat → Int32} {b : Bool} (hS : S ≤ 8) (h1 : 1 ≤ K) (hK : K ≤ 4) (hc : c < 8 ^ K) (hv : (gdt S K c K && vN K c K) = true) (hW : ∀ kk : Int32 → Int32 → Option (Int32 × (Nat → Int32)), FL_X9_market_93 stX stY (nI K) x y (layF 8 c K laid) kk gN0 0 0 = kk W (nI K)) (hC : F_X9_isClear fan g laws stX stY (layF 8 c K laid) (nI K) x y = some (gB b)) : FL_X9_market_67 (nI S) fan g laws stX stY (nI K) x y km (fu + 1) l5 l6 (nI c) laid = if (l5 < 0 ∨ ¬ l6 ≤ W) ∧ b = true then FL_X9_market_67 (nI S) fan g laws stX stY (nI K) x y km fu (nI c) W (nI (c + 1)) (layF 8 c K laid) else FL_X9_market_67 (nI S) fan g laws stX stY (nI K) x y km fu l5 l6 (nI (c + 1)) (layF 8 c K laid) := by
  have h8 := p8_le hK
  have e3 : 3 * nI K = nI (3 * K) := pk_mul 3 K
  have e8 : 2 ^ (3 * K) = 8 ^ K := Nat.pow_mul 2 3 K
  conv => lhs; unfold FL_X9_market_67
  rw [e3, nI_shl1 (3 * K) (by omega), e8, if_neg (nI_ge hc (by omega)), lays_mod hS hK (by omega), Option.bind_some, vb_eq hS K (Nat.le_refl _), hv, gB_t, if_neg (show ¬ (1 : Int32) = 0 by decide), hW]
  simp only [hC, Option.bind_some, gB_if, nI_1]
  by_cases q1 : l5 < 0
  · rw [if_pos q1]
    cases b
    · rw [if_neg (by decide), if_neg (fun z => absurd z.2 (by decide))]
    · rw [if_pos rfl, if_pos ⟨Or.inl q1, rfl⟩]
  · rw [if_neg q1]
    by_cases q2 : l6 ≤ W
    · rw [if_pos q2, if_neg (fun z => z.1.elim q1 (fun w => w q2))]
    · rw [if_neg q2]
      cases b
      · rw [if_neg (by decide), if_neg (fun z => absurd z.2 (by decide))]
      · rw [if_pos rfl, if_pos ⟨Or.inr q2, rfl⟩]
theorem cls_bad {x y : Int32} {kc : Int32 → Int32 → (Nat → Int32) → (Nat → Int32) → (Nat → Int32) → Option (Int32 × Int32 × Int32 × Int32 × (Nat → Int32) × (Nat → Int32) × (Nat → Int32))} {fu c : Nat} {l8 : Int32} {df tr ch : Nat → Int32} (hS1 : 1 ≤ S) (hS : S ≤ 8) (h1 : 1 ≤ K) (hK : K ≤ 4) (hc : c < 8 ^ K) (hg : gdt S K c K = true) (hv : vN K c K = false) : FL_X3_leastWays_50 (nI S) lf fx fy (nI K) x y (nI S) (nI (S ^ K)) (nI K) fo tu kc (fu + 1) l8 (nI (rk S K c)) df tr ch = FL_X3_leastWays_50 (nI S) lf fx fy (nI K) x y (nI S) (nI (S ^ K)) (nI K) fo tu kc fu l8 (nI (rk S K (c + 1))) df (layF S (rk S K c) K tr) ch := by
  have h8 := p8_le hK
  have hSK : S ^ K ≤ 8 ^ K := Nat.pow_le_pow_left hS K
  obtain ⟨g1, g2, -⟩ := rk_good hS1 hS hc hg
  obtain ⟨c1, -⟩ := choose_cls (tr := tr) hS h1 hK hS1 hc hg
  conv => lhs; unfold FL_X3_leastWays_50
  rw [if_neg (nI_ge g2 (by omega)), c1, Option.bind_some, hv, gB_f, if_pos rfl, nI_1, g1]
theorem cls_good {x y : Int32} {kc : Int32 → Int32 → (Nat → Int32) → (Nat → Int32) → (Nat → Int32) → Option (Int32 × Int32 × Int32 × Int32 × (Nat → Int32) × (Nat → Int32) × (Nat → Int32))} {fu c : Nat} {l8 W : Int32} {df df' tr ch : Nat → Int32} {b : Bool} (hS1 : 1 ≤ S) (hS : S ≤ 8) (h1 : 1 ≤ K) (hK : K ≤ 4) (hc : c < 8 ^ K) (hg : gdt S K c K = true) (hv : vN K c K = true) (hW : F_X3_lay (nI K) df (layF S (rk S K c) K tr) (nI S) lf (nI K) x y = some (W, df')) (hC : F_X3_eachAlone (nI K) fo tu df' fx fy (nI K) x y = some (gB b)) : FL_X3_leastWays_50 (nI S) lf fx fy (nI K) x y (nI S) (nI (S ^ K)) (nI K) fo tu kc (fu + 1) l8 (nI (rk S K c)) df tr ch = if (l8 < 0 ∨ ¬ l8 ≤ W) ∧ b = true then FL_X3_leastWays_50 (nI S) lf fx fy (nI K) x y (nI S) (nI (S ^ K)) (nI K) fo tu kc fu W (nI (rk S K (c + 1))) df' (layF S (rk S K c) K tr) (va_cpy (layF S (rk S K c) K tr) ch 0 0 4) else FL_X3_leastWays_50 (nI S) lf fx fy (nI K) x y (nI S) (nI (S ^ K)) (nI K) fo tu kc fu l8 (nI (rk S K (c + 1))) df' (layF S (rk S K c) K tr) ch := by
  have h8 := p8_le hK
  have hSK : S ^ K ≤ 8 ^ K := Nat.pow_le_pow_left hS K
  obtain ⟨g1, g2, -⟩ := rk_good hS1 hS hc hg
  obtain ⟨c1, -⟩ := choose_cls (tr := tr) hS h1 hK hS1 hc hg
  conv => lhs; unfold FL_X3_leastWays_50
  rw [if_neg (nI_ge g2 (by omega)), c1, Option.bind_some, hv, gB_t, if_neg (show ¬ (1 : Int32) = 0 by decide), hW, Option.bind_some]
  simp only [hC, Option.bind_some, gB_if, nI_1, g1, if_pos g4]
  by_cases q1 : l8 < 0
  · rw [if_pos q1]
    cases b
    · rw [if_neg (by decide), if_neg (fun z => absurd z.2 (by decide))]
    · rw [if_pos rfl, if_pos ⟨Or.inl q1, rfl⟩]
  · rw [if_neg q1]
    by_cases q2 : l8 ≤ W
    · rw [if_pos q2, if_neg (fun z => z.1.elim q1 (fun w => w q2))]
    · rw [if_neg q2]
      cases b
      · rw [if_neg (by decide), if_neg (fun z => absurd z.2 (by decide))]
      · rw [if_pos rfl, if_pos ⟨Or.inr q2, rfl⟩]
theorem search (h : SR T P fo tu f pf g xs ys laws) (hfr : FR fx fy fan) (hl : LR S lf stX stY) (h1 : 1 ≤ K) (hK : K ≤ 4) (hKT : K ≤ T) (hKS : K ≤ S) {x y : Int32} (hp : pt x y) (kc : Int32 → Int32 → (Nat → Int32) → (Nat → Int32) → (Nat → Int32) → Option (Int32 × Int32 × Int32 × Int32 × (Nat → Int32) × (Nat → Int32) × (Nat → Int32))) (km : Int32 → Int32 → Int32 → (Nat → Int32) → Option (Int32 × (Nat → Int32))) : ∀ (D c fu fu' : Nat) (l8 l5 l6 : Int32) (df tr ch laid : Nat → Int32), c + D = 8 ^ K → D < fu → D < fu' → DF K f df → MS K l8 l5 l6 ch → ∃ (l8' lc' l5' l6' lm' : Int32) (df' tr' ch' laid' : Nat → Int32), FL_X3_leastWays_50 (nI S) lf fx fy (nI K) x y (nI S) (nI (S ^ K)) (nI K) fo tu kc fu l8 (nI (rk S K c)) df tr ch = kc l8' lc' df' tr' ch' ∧ FL_X9_market_67 (nI S) fan g laws stX stY (nI K) x y km fu' l5 l6 (nI c) laid = km l5' l6' lm' laid' ∧ MS K l8' l5' l6' ch' := by
  have hS := hl.1
  have hS1 : 1 ≤ S := by omega
  have h8 := p8_le hK
  have hSK : S ^ K ≤ 8 ^ K := Nat.pow_le_pow_left hS K
  intro D
  induction D with
  | zero =>
    intro c fu fu' l8 l5 l6 df tr ch laid hc hfu hfu' hD hM
    obtain ⟨fu, rfl⟩ : ∃ q, fu = q + 1 := ⟨fu - 1, by omega⟩
    obtain ⟨fu', rfl⟩ : ∃ q, fu' = q + 1 := ⟨fu' - 1, by omega⟩
    have e : c = 8 ^ K := by omega
    subst e
    have e3 : 3 * nI K = nI (3 * K) := pk_mul 3 K
    have e8 : 2 ^ (3 * K) = 8 ^ K := Nat.pow_mul 2 3 K
    refine ⟨l8, nI (S ^ K), l5, l6, nI (8 ^ K), df, tr, ch, laid, ?_, ?_, hM⟩
    · unfold FL_X3_leastWays_50
      rw [rk_n' hS, if_pos (nI_le (Nat.le_refl _) (by omega))]
    · unfold FL_X9_market_67
      rw [e3, nI_shl1 (3 * K) (by omega), e8, if_pos (nI_le (Nat.le_refl _) (by omega))]
  | succ D ih =>
    intro c fu fu' l8 l5 l6 df tr ch laid hc hfu hfu' hD hM
    obtain ⟨fu, rfl⟩ : ∃ q, fu = q + 1 := ⟨fu - 1, by omega⟩
    obtain ⟨fu', rfl⟩ : ∃ q, fu' = q + 1 := ⟨fu' - 1, by omega⟩
    have hcl : c < 8 ^ K := by omega
    cases hg : gdt S K c K
    · rw [mod_bad hS h1 hK hcl (by rw [hg]; rfl), ← rk_bad hS1 hS hcl hg]
      exact ih (c + 1) (fu + 1) fu' l8 l5 l6 df tr ch (layF 8 c K laid) (by omega) (by omega) (by omega) hD hM
    · cases hv : vN K c K
      · rw [mod_bad hS h1 hK hcl (by rw [hg, hv]; rfl), cls_bad hS1 hS h1 hK hcl hg hv]
        exact ih (c + 1) fu fu' l8 l5 l6 df _ ch (layF 8 c K laid) (by omega) (by omega) (by omega) hD hM
      · have hs : ∀ j, j < K → (fun t => dM c (K - 1 - t)) j < S := fun j hj => gdt_Gd.mp hg (K - 1 - j) (by omega)
        obtain ⟨-, htr⟩ := choose_cls (tr := tr) hS h1 hK hS1 hcl hg
        obtain ⟨W, df', b, r1, r2, r3, r4, r5, r6⟩ := row_both h hfr hl hKT hK hp (df := df) (tr := layF S (rk S K c) K tr) (laid := layF 8 c K laid) (s := fun t => dM c (K - 1 - t)) hs htr (fun j hj => layF_at hj) hD
        rw [mod_good hS h1 hK hcl (by rw [hg, hv]; rfl) r4 r5, cls_good hS1 hS h1 hK hcl hg hv r1 r3]
        have same : (l8 < 0 ∨ ¬ l8 ≤ W) ↔ (l5 < 0 ∨ ¬ l6 ≤ W) := by
          rcases hM with ⟨rfl, rfl⟩ | ⟨b, hb, rfl, rfl, q, -⟩
          · exact ⟨fun _ => Or.inl (by decide), fun _ => Or.inl (by decide)⟩
          · constructor
            · rintro (z | z)
              · exact absurd z q
              · exact Or.inr z
            · rintro (z | z)
              · exact absurd z (nI_neg b (by omega))
              · exact Or.inr z
        by_cases hz : (l8 < 0 ∨ ¬ l8 ≤ W) ∧ b = true
        · rw [if_pos hz, if_pos ⟨same.mp hz.1, hz.2⟩]
          refine ih (c + 1) fu fu' W (nI c) W df' _ _ (layF 8 c K laid) (by omega) (by omega) (by omega) r2 (Or.inr ⟨c, hcl, rfl, rfl, r6, fun t ht => ?_⟩)
          rw [cp_at _ _ (by omega)]
          exact htr t ht
        · rw [if_neg hz, if_neg (fun z => hz ⟨same.mpr z.1, z.2⟩)]
          exact ih (c + 1) fu fu' l8 l5 l6 df' _ ch (layF 8 c K laid) (by omega) (by omega) (by omega) r2 hM
theorem rows_pow (hS : S ≤ 8) (hK : K ≤ 4) (kk : Int32 → Int32 → Option (Int32 × Int32 × Int32 × Int32 × (Nat → Int32) × (Nat → Int32) × (Nat → Int32))) : ∀ (d t fu : Nat), t + d = K → d < fu → FL_X3_leastWays_24 (nI K) (nI S) kk fu (nI (S ^ t)) (nI t) = kk (nI (S ^ K)) (nI K)
  | 0, t, fu + 1, ht, _ => by
    have e : t = K := by omega
    subst e
    unfold FL_X3_leastWays_24
    rw [if_pos (nI_le (Nat.le_refl _) (by omega))]
  | d + 1, t, fu + 1, ht, hfu => by
    have ih := rows_pow hS hK kk d (t + 1) fu (by omega) (by omega)
    unfold FL_X3_leastWays_24
    rw [if_neg (nI_ge (a := t) (b := K) (by omega) (by omega)), pk_mul, nI_1, ← Nat.pow_succ]
    exact ih
end Mkt3
