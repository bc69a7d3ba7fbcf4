/-! fewest, the class's table. -/
def tab (S : Nat) (a : Nat → Int32) (v : Nat → Nat) (cap : Nat) : Prop := ∀ p, p ≤ S → a p = nI (v p) ∧ v p ≤ cap
theorem fill_loop {S : Nat} (hS : S < 1024) (kk : Int32 → (Nat → Int32) → Option (Int32 × Int32 × (Nat → Int32) × (Nat → Int32))) : ∀ (d i fu : Nat) (a : Nat → Int32), i + d = S + 1 → d < fu → (∀ p, p < i → a p = 100) →
    ∃ a' : Nat → Int32, (∀ p, p ≤ S → a' p = 100) ∧ FL_X0_fewestArms_31 (nI S) kk fu (nI i) a = kk (nI (S + 1)) a'
  | 0, i, fu + 1, a, hi, _, ha => by
    have e : i = S + 1 := by omega
    subst e
    refine ⟨a, fun p hp => ha p (by omega), ?_⟩
    unfold FL_X0_fewestArms_31
    rw [if_pos (nI_lt (by omega) (by omega))]
  | d + 1, i, fu + 1, a, hi, hfu, ha => by
    have ci : (nI i).toNatClampNeg = i := nI_clamp (by omega)
    obtain ⟨a', h1, h2⟩ := fill_loop hS kk d (i + 1) fu (upd a i 100) (by omega) (by omega) (by
      intro p hp
      by_cases e : p = i
      · rw [e, upd_self]
      · rw [upd_ne a _ e]
        exact ha p (by omega))
    refine ⟨a', h1, ?_⟩
    unfold FL_X0_fewestArms_31
    simp only [if_neg (nI_nlt (show i ≤ S by omega) (by omega)), if_pos (show gvp (nI i) 1024 from gvp_nI (by omega) (by omega)), ci]
    rw [nI_1]
    exact h2
theorem subs_or {a b S : Nat} (h1 : subs a S) (h2 : subs b S) : subs (a ||| b) S := by
  intro i hi
  rw [Nat.testBit_or, Bool.or_eq_true] at hi
  rcases hi with h | h
  · exact h1 i h
  · exact h2 i h
theorem covs_sub {M : Nat → Prop} {S n p : Nat} (hM : ∀ m, M m → subs m S) (h : covs M n p) : subs p S := by
  obtain ⟨l, -, h2, rfl⟩ := h
  intro i hi
  obtain ⟨q, q1, q2⟩ := (uni_test l i).mp hi
  exact hM q (h2 q q1) i q2
theorem covs_add {M : Nat → Prop} {n p m : Nat} (h : covs M n p) (hm : M m) : covs M (n + 1) (p ||| m) := by
  obtain ⟨l, h1, h2, h3⟩ := h
  refine ⟨m :: l, by simp [h1], ?_, ?_⟩
  · intro q hq
    rcases List.mem_cons.mp hq with rfl | hq
    · exact hm
    · exact h2 q hq
  · rw [uni, h3, Nat.or_comm]
theorem go_loop {M : Nat → Prop} {S q c : Nat} {cm : Nat → Int32} (hS : S < 1024) (hM : ∀ m, M m → subs m S) (hc : c ≤ 80) (hcm : ∀ j, j < c → ∃ m, cm j = nI m ∧ M m) (hq : subs q S) (kk : Int32 → (Nat → Int32) → Option (Nat → Int32)) : ∀ (d i fu : Nat) (a : Nat → Int32) (v : Nat → Nat), i + d = c → d < fu → tab S a v 100 → covs M (v q) q → v q < 100 → (∀ p, p ≤ S → v p < 100 → covs M (v p) p) →
    ∃ (a' : Nat → Int32) (v' : Nat → Nat), tab S a' v' 100 ∧ (∀ p, p ≤ S → v' p ≤ v p) ∧ (∀ p, p ≤ q → v' p = v p) ∧ (∀ p, p ≤ S → v' p < 100 → covs M (v' p) p) ∧ (∀ j m, i ≤ j → j < c → cm j = nI m → M m → v' (q ||| m) ≤ v' q + 1) ∧ FL_X0_goOnFrom_2 (nI c) cm (nI q) kk fu (nI i) a = kk (nI c) a'
  | 0, i, fu + 1, a, v, hi, _, ht, h1, h2, h3 => by
    have e : i = c := by omega
    subst e
    refine ⟨a, v, ht, fun p _ => Nat.le_refl _, fun p _ => rfl, h3, fun j m hj1 hj2 => by omega, ?_⟩
    unfold FL_X0_goOnFrom_2
    rw [if_pos (nI_le (Nat.le_refl _) (by omega))]
  | d + 1, i, fu + 1, a, v, hi, hfu, ht, h1, h2, h3 => by
    obtain ⟨m, em, hm⟩ := hcm i (by omega)
    have hmS := hM m hm
    have hqS := subs_le hq
    have hmle := subs_le hmS
    have hmore := subs_le (subs_or hq hmS)
    have ci : (nI i).toNatClampNeg = i := nI_clamp (by omega)
    have cq : (nI q).toNatClampNeg = q := nI_clamp (by omega)
    have cm' : (nI (q ||| m)).toNatClampNeg = q ||| m := nI_clamp (by omega)
    have aq := (ht q hqS).1
    have am := (ht (q ||| m) hmore).1
    have bm := (ht (q ||| m) hmore).2
    have step : FL_X0_goOnFrom_2 (nI c) cm (nI q) kk (fu + 1) (nI i) a = if nI (v (q ||| m)) ≤ nI (v q + 1) then FL_X0_goOnFrom_2 (nI c) cm (nI q) kk fu (nI (i + 1)) a else FL_X0_goOnFrom_2 (nI c) cm (nI q) kk fu (nI (i + 1)) (upd a (q ||| m) (nI (v q + 1))) := by
      rw [FL_X0_goOnFrom_2]
      simp only [if_neg (nI_ge (show i < c by omega) (by omega)), if_pos (show gvp (nI i) 80 from gvp_nI (by omega) (by omega)), ci, em, nI_or, if_neg (show ¬ (1024 : Int32) ≤ nI (q ||| m) from nI_ge (b := 1024) (by omega) (by omega)), if_pos (show gvp (nI (q ||| m)) 1024 from gvp_nI (by omega) (by omega)), if_pos (show gvp (nI q) 1024 from gvp_nI (by omega) (by omega)), cq, cm', aq, am, nI_1]
    rw [step]
    by_cases hle : v (q ||| m) ≤ v q + 1
    · rw [if_pos (nI_le hle (by omega))]
      obtain ⟨a', v', g1, g2, g3, g4, g5, g6⟩ := go_loop hS hM hc hcm hq kk d (i + 1) fu a v (by omega) (by omega) ht h1 h2 h3
      refine ⟨a', v', g1, g2, g3, g4, ?_, g6⟩
      intro j m' hj1 hj2 e hm'
      rcases Nat.eq_or_lt_of_le hj1 with e1 | h5
      · subst e1
        rw [em] at e
        have hm'l := subs_le (hM m' hm')
        have : m = m' := (nI_eq (by omega) (by omega)).mp e
        subst this
        have := g2 (q ||| m) hmore
        have := g3 q (Nat.le_refl _)
        omega
      · exact g5 j m' h5 hj2 e hm'
    · rw [if_neg (nI_ge (by omega) (by omega))]
      have hne : q ||| m ≠ q := by
        intro e
        rw [e] at hle
        omega
      have hgt : q < q ||| m := Nat.lt_of_le_of_ne Nat.left_le_or (fun e => hne e.symm)
      let v1 : Nat → Nat := fun p => if p = q ||| m then v q + 1 else v p
      have ev1 : v1 (q ||| m) = v q + 1 := if_pos rfl
      have ev2 : ∀ p, p ≠ q ||| m → v1 p = v p := fun p hp => if_neg hp
      have eq1 : v1 q = v q := ev2 q (by omega)
      obtain ⟨a', v', g1, g2, g3, g4, g5, g6⟩ := go_loop hS hM hc hcm hq kk d (i + 1) fu (upd a (q ||| m) (nI (v q + 1))) v1 (by omega) (by omega) (by
        intro p hp
        by_cases e : p = q ||| m
        · rw [e, upd_self, ev1]
          exact ⟨rfl, by omega⟩
        · rw [upd_ne a _ e, ev2 p e]
          exact ht p hp) (by rw [eq1]; exact h1) (by rw [eq1]; exact h2) (by
        intro p hp hv
        by_cases e : p = q ||| m
        · rw [e, ev1]
          exact covs_add h1 hm
        · rw [ev2 p e] at hv ⊢
          exact h3 p hp hv)
      refine ⟨a', v', g1, ?_, ?_, g4, ?_, g6⟩
      · intro p hp
        have := g2 p hp
        by_cases e : p = q ||| m
        · rw [e, ev1] at this
          rw [e]
          omega
        · rw [ev2 p e] at this
          exact this
      · intro p hp
        rw [g3 p hp]
        exact ev2 p (by omega)
      · intro j m' hj1 hj2 e hm'
        rcases Nat.eq_or_lt_of_le hj1 with e1 | h5
        · subst e1
          rw [em] at e
          have hm'l := subs_le (hM m' hm')
          have : m = m' := (nI_eq (by omega) (by omega)).mp e
          subst this
          have k1 := g2 (q ||| m) hmore
          have k2 := g3 q (Nat.le_refl _)
          rw [ev1] at k1
          rw [eq1] at k2
          omega
        · exact g5 j m' h5 hj2 e hm'
theorem least_loop {M : Nat → Prop} {S c : Nat} {cm : Nat → Int32} (hS : S < 1024) (hM : ∀ m, M m → subs m S) (hc : c ≤ 80) (hcm : ∀ j, j < c → ∃ m, cm j = nI m ∧ M m) (hcm2 : ∀ m, M m → ∃ j, j < c ∧ cm j = nI m) (kk : Int32 → (Nat → Int32) → Option (Int32 × Int32 × (Nat → Int32) × (Nat → Int32))) : ∀ (d q fu : Nat) (a : Nat → Int32) (v : Nat → Nat), q + d = S → d < fu → tab S a v 100 → v 0 = 0 → (∀ p, p ≤ S → v p < 100 → covs M (v p) p) → (∀ r m, r < q → M m → r ||| m ≤ S → v (r ||| m) ≤ v r + 1) →
    ∃ (a' : Nat → Int32) (v' : Nat → Nat), tab S a' v' 100 ∧ fewI M S (if v' S < 100 then some (v' S) else none) ∧ FL_X0_fewestArms_62 (nI S) (nI c) cm kk fu (nI q) a = kk (nI S) a'
  | 0, q, fu + 1, a, v, hi, _, ht, h0, h1, h2 => by
    have e : q = S := by omega
    subst e
    refine ⟨a, v, ht, least_end hS hM h0 h1 h2, ?_⟩
    unfold FL_X0_fewestArms_62
    rw [if_pos (nI_le (Nat.le_refl _) (by omega))]
  | d + 1, q, fu + 1, a, v, hi, hfu, ht, h0, h1, h2 => by
    have hg := gN0_big
    have cq : (nI q).toNatClampNeg = q := nI_clamp (by omega)
    obtain ⟨aq, bq⟩ := ht q (by omega)
    have step : FL_X0_fewestArms_62 (nI S) (nI c) cm kk (fu + 1) (nI q) a = if (100 : Int32) ≤ nI (v q) then FL_X0_fewestArms_62 (nI S) (nI c) cm kk fu (nI (q + 1)) a else ((F_X0_goOnFrom (nI c) cm a (nI q)).bind fun r => FL_X0_fewestArms_62 (nI S) (nI c) cm kk fu (nI (q + 1)) r) := by
      rw [FL_X0_fewestArms_62]
      simp only [if_neg (nI_ge (show q < S by omega) (by omega)), if_pos (show gvp (nI q) 1024 from gvp_nI (by omega) (by omega)), cq, aq, nI_1]
    rw [step]
    by_cases hv : v q < 100
    · rw [if_neg (show ¬ (100 : Int32) ≤ nI (v q) from nI_ge (b := 100) hv (by omega))]
      have hcq := h1 q (by omega) hv
      obtain ⟨a', v', g1, g2, g3, g4, g5, g6⟩ := go_loop hS hM hc hcm (covs_sub hM hcq) (fun _ a => some a) c 0 gN0 a v (by omega) (by omega) ht hcq hv h1
      have e : F_X0_goOnFrom (nI c) cm a (nI q) = some a' := g6
      rw [e]
      simp only [Option.bind_some]
      refine least_loop hS hM hc hcm hcm2 kk d (q + 1) fu a' v' (by omega) (by omega) g1 (by rw [g3 0 (Nat.zero_le _)]; exact h0) g4 ?_
      intro r m hr hm hle
      rcases Nat.lt_or_ge r q with h5 | h5
      · have k1 := h2 r m h5 hm hle
        have k2 := g2 (r ||| m) hle
        have k3 := g3 r (by omega)
        omega
      · have : r = q := by omega
        subst this
        obtain ⟨j, hj, ej⟩ := hcm2 m hm
        exact g5 j m (Nat.zero_le _) hj ej hm
    · rw [if_pos (show (100 : Int32) ≤ nI (v q) from nI_le (a := 100) (by omega) (by omega))]
      refine least_loop hS hM hc hcm hcm2 kk d (q + 1) fu a v (by omega) (by omega) ht h0 h1 ?_
      intro r m hr hm hle
      rcases Nat.lt_or_ge r q with h5 | h5
      · exact h2 r m h5 hm hle
      · have : r = q := by omega
        subst this
        have := (ht (r ||| m) hle).2
        omega
section Fewest8
variable {T P : Nat} {fo tu : Int32} {f pf g xs ys laws fx fy fan : Nat → Int32}
def fewV (r : Option Nat) : Int32 := match r with
  | some v => nI v
  | none => -4
theorem fewest_cls (h : SR T P fo tu f pf g xs ys laws) (hfr : FR fx fy fan) {x y : Int32} (hp : pt x y) {S : Nat} (hS : S < 1024) (cz : Int32) (cm cl : Nat → Int32) : ∃ (r : Option Nat) (cz' : Int32) (cm' cl' : Nat → Int32), fewI (UM (fmm f fo tu T fx fy x y) S 80) S r ∧ F_X0_fewestArms cz cm cl (nI T) fo tu f fx fy (nI S) x y = some (fewV r, cz', cm', cl') := by
  have hg := gN0_big
  obtain ⟨A, c, cm', hr, hA, e⟩ := collect_cls h hfr hp hS cm
  have hM : ∀ m, UM (fmm f fo tu T fx fy x y) S 80 m → subs m S := by
    rintro m ⟨k, -, -, -, h4⟩
    exact h4
  have cS : (nI S).toNatClampNeg = S := nI_clamp (by omega)
  unfold F_X0_fewestArms
  rw [if_neg (nI_neg S (by omega)), if_neg (show ¬ (1024 : Int32) ≤ nI S from nI_ge (b := 1024) (by omega) (by omega)), e]
  simp only [Option.bind_some, gB_if, decide_eq_true_eq]
  by_cases hAS : A = S
  · rw [if_pos hAS]
    obtain ⟨a1, ha1, e1⟩ := fill_loop hS (fun _ a2_31 => FL_X0_fewestArms_62 (nI S) (nI c) cm' (fun _ a2_62 => if gvp (nI S) 1024 then (if 100 ≤ (a2_62 (nI S).toNatClampNeg) then (some ((-4), nI c, cm', a2_62)) else (if gvp (nI S) 1024 then (some ((a2_62 (nI S).toNatClampNeg), nI c, cm', a2_62)) else none)) else none) gN0 0 (upd a2_31 0 0)) (S + 1) 0 gN0 cl (by omega) (by omega) (fun p hp => by omega)
    obtain ⟨a2, v2, ht, hf, e2⟩ := least_loop hS hM hr.1 hr.2.1 hr.2.2 (fun _ a2_62 => if gvp (nI S) 1024 then (if 100 ≤ (a2_62 (nI S).toNatClampNeg) then (some ((-4), nI c, cm', a2_62)) else (if gvp (nI S) 1024 then (some ((a2_62 (nI S).toNatClampNeg), nI c, cm', a2_62)) else none)) else none) S 0 gN0 (upd a1 0 0) (fun p => if p = 0 then 0 else 100) (by omega) (by omega) (by
      intro p hp
      by_cases e0 : p = 0
      · rw [e0, upd_self]
        exact ⟨rfl, by decide⟩
      · rw [upd_ne a1 _ e0]
        show a1 p = nI (if p = 0 then 0 else 100) ∧ (if p = 0 then 0 else 100) ≤ 100
        rw [if_neg e0]
        exact ⟨ha1 p hp, Nat.le_refl _⟩) rfl (by
      intro p hp hv
      by_cases e0 : p = 0
      · rw [e0, if_pos rfl]
        exact ⟨[], rfl, fun m hm => absurd hm List.not_mem_nil, rfl⟩
      · rw [if_neg e0] at hv
        omega) (fun r m hr => by omega)
    have e3 := e1.trans e2
    obtain ⟨aS, bS⟩ := ht S (Nat.le_refl _)
    refine ⟨_, nI c, cm', a2, hf, ?_⟩
    refine e3.trans ?_
    simp only [if_pos (show gvp (nI S) 1024 from gvp_nI (by omega) (by omega)), cS, aS]
    by_cases hv : v2 S < 100
    · rw [if_neg (show ¬ (100 : Int32) ≤ nI (v2 S) from nI_ge (b := 100) hv (by omega)), if_pos hv]
      rfl
    · rw [if_pos (show (100 : Int32) ≤ nI (v2 S) from nI_le (a := 100) (by omega) (by omega)), if_neg hv]
      rfl
  · rw [if_neg hAS]
    refine ⟨none, nI c, cm', cl, ?_, rfl⟩
    rintro k ⟨l, -, h2, h3⟩
    apply hAS
    apply subs_anti
    · intro i hi
      obtain ⟨m, hm, hmi⟩ := (hA.2 i).mp hi
      exact hM m hm i hmi
    · intro i hi
      rw [← h3] at hi
      obtain ⟨m, hm, hmi⟩ := (uni_test l i).mp hi
      exact (hA.2 i).mpr ⟨m, h2 m hm, hmi⟩
end Fewest8
