/-! market: the rows of stalls of class and model, in one order. -/
def dM (c i : Nat) : Nat := c / 8 ^ i % 8
/-- all digits are stalls -/
def gdt (S K c : Nat) : Nat → Bool
  | 0 => true
  | t + 1 => decide (dM c (K - 1 - t) < S) && gdt S K c t
/-- all digits are unlike -/
def vN (K c : Nat) : Nat → Bool
  | 0 => true
  | t + 1 => allF (fun o => decide (¬ dM c (K - 1 - o) = dM c (K - 1 - t))) (t + 1) (K - (t + 1)) && vN K c t
/-- how many rows of the class stand before a code of the model -/
def rk (S : Nat) : Nat → Nat → Nat
  | 0, c => c
  | K + 1, c => if S ≤ c / 8 ^ K then S ^ (K + 1) else S ^ K * (c / 8 ^ K) + rk S K (c % 8 ^ K)
theorem p8_le {K : Nat} (hK : K ≤ 4) : 8 ^ K ≤ 4096 := Nat.pow_le_pow_right (n := 8) (by decide) hK
theorem dig_low {b K q x i : Nat} (hb : 0 < b) (hi : i < K) : (b ^ K * q + x) / b ^ i % b = x / b ^ i % b := by
  have e : b ^ K * q = b ^ i * (b * (b ^ (K - 1 - i) * q)) := by
    rw [← Nat.mul_assoc, ← Nat.pow_succ, ← Nat.mul_assoc, ← Nat.pow_add]
    congr 2
    omega
  rw [e, Nat.mul_add_div (Nat.pow_pos hb), Nat.mul_add_mod]
theorem dig_top {b K q x : Nat} (hb : 0 < b) (hx : x < b ^ K) (hq : q < b) : (b ^ K * q + x) / b ^ K % b = q := by
  rw [Nat.mul_add_div (Nat.pow_pos hb), Nat.div_eq_of_lt hx, Nat.add_zero, Nat.mod_eq_of_lt hq]
theorem rk_two {S K a b : Nat} (hb : b < 8 ^ K) : rk S (K + 1) (8 ^ K * a + b) = if S ≤ a then S ^ (K + 1) else S ^ K * a + rk S K b := by
  have h0 : 0 < 8 ^ K := Nat.pow_pos (by decide)
  have e1 : (8 ^ K * a + b) / 8 ^ K = a := by rw [Nat.mul_add_div h0, Nat.div_eq_of_lt hb, Nat.add_zero]
  have e2 : (8 ^ K * a + b) % 8 ^ K = b := by rw [Nat.mul_add_mod, Nat.mod_eq_of_lt hb]
  rw [rk, e1, e2]
theorem rk_0' {S : Nat} (h1 : 1 ≤ S) : ∀ K : Nat, rk S K 0 = 0
  | 0 => rfl
  | K + 1 => by
    rw [rk, Nat.zero_div, Nat.zero_mod, if_neg (by omega), rk_0' h1 K]
    omega
theorem rk_n' {S : Nat} (hS : S ≤ 8) : ∀ K : Nat, rk S K (8 ^ K) = S ^ K
  | 0 => rfl
  | K + 1 => by
    have h0 : 0 < 8 ^ K := Nat.pow_pos (by decide)
    rw [rk, show 8 ^ (K + 1) / 8 ^ K = 8 by rw [Nat.pow_succ, Nat.mul_div_cancel_left _ h0], if_pos hS]
def Gd (S K c : Nat) : Prop := ∀ i, i < K → dM c i < S
theorem rk_step {S : Nat} (h1 : 1 ≤ S) (hS : S ≤ 8) : ∀ (K c : Nat), c < 8 ^ K → (Gd S K c → rk S K (c + 1) = rk S K c + 1 ∧ rk S K c < S ^ K ∧ ∀ i, i < K → rk S K c / S ^ i % S = dM c i) ∧ (¬ Gd S K c → rk S K (c + 1) = rk S K c)
  | 0, c, hc => by
    have e : c = 0 := by rw [Nat.pow_zero] at hc; omega
    subst e
    exact ⟨fun _ => ⟨rfl, Nat.zero_lt_one, fun i hi => by omega⟩, fun h => absurd (fun i hi => by omega) h⟩
  | K + 1, c, hc => by
    have h0 : 0 < 8 ^ K := Nat.pow_pos (by decide)
    have s0 : 0 < S ^ K := Nat.pow_pos h1
    obtain ⟨q, r, hr, rfl⟩ : ∃ q r, r < 8 ^ K ∧ c = 8 ^ K * q + r := ⟨c / 8 ^ K, c % 8 ^ K, Nat.mod_lt _ h0, (Nat.div_add_mod c (8 ^ K)).symm⟩
    have hq : q < 8 := by
      rcases Nat.lt_or_ge q 8 with h | h
      · exact h
      · have := Nat.mul_le_mul_left (8 ^ K) h
        rw [Nat.pow_succ] at hc
        omega
    obtain ⟨ih1, ih2⟩ := rk_step h1 hS K r hr
    have d1 : dM (8 ^ K * q + r) K = q := dig_top (by decide) hr hq
    have d2 : ∀ i, i < K → dM (8 ^ K * q + r) i = dM r i := fun i hi => dig_low (by decide) hi
    have gd : Gd S (K + 1) (8 ^ K * q + r) ↔ q < S ∧ Gd S K r := by
      constructor
      · intro h
        refine ⟨by rw [← d1]; exact h K (by omega), fun i hi => ?_⟩
        rw [← d2 i hi]
        exact h i (by omega)
      · rintro ⟨g1, g2⟩ i hi
        by_cases e : i = K
        · rw [e, d1]
          exact g1
        · rw [d2 i (by omega)]
          exact g2 i (by omega)
    have nxt : q < S → rk S (K + 1) (8 ^ K * q + r + 1) = S ^ K * q + rk S K (r + 1) := by
      intro hqS
      by_cases e : r + 1 < 8 ^ K
      · rw [Nat.add_assoc, rk_two e, if_neg (by omega)]
      · have e1 : r + 1 = 8 ^ K := by omega
        rw [Nat.add_assoc, e1, rk_n' hS, show 8 ^ K * q + 8 ^ K = 8 ^ K * (q + 1) + 0 by rw [Nat.mul_add, Nat.mul_one, Nat.add_zero], rk_two h0]
        by_cases e2 : S ≤ q + 1
        · have e3 : S = q + 1 := by omega
          rw [if_pos e2, Nat.pow_succ]
          conv => lhs; rhs; rw [e3]
          rw [Nat.mul_add, Nat.mul_one]
        · rw [if_neg e2, rk_0' h1, Nat.mul_add, Nat.mul_one, Nat.add_zero]
    refine ⟨fun hg => ?_, fun hg => ?_⟩
    · obtain ⟨g1, g2⟩ := gd.mp hg
      obtain ⟨a1, a2, a3⟩ := ih1 g2
      have e0 : rk S (K + 1) (8 ^ K * q + r) = S ^ K * q + rk S K r := by rw [rk_two hr, if_neg (by omega)]
      refine ⟨by rw [nxt g1, e0, a1]; omega, ?_, fun i hi => ?_⟩
      · rw [e0, Nat.pow_succ]
        have := Nat.mul_le_mul_left (S ^ K) (show q + 1 ≤ S from g1)
        rw [Nat.mul_add, Nat.mul_one] at this
        omega
      · rw [e0]
        by_cases e : i = K
        · rw [e, d1]
          exact dig_top h1 a2 g1
        · rw [d2 i (by omega), dig_low h1 (by omega)]
          exact a3 i (by omega)
    · by_cases hqS : q < S
      · have : ¬ Gd S K r := fun h => hg (gd.mpr ⟨hqS, h⟩)
        rw [nxt hqS, ih2 this, rk_two hr, if_neg (by omega)]
      · rw [rk_two hr, if_pos (by omega)]
        by_cases e : r + 1 < 8 ^ K
        · rw [Nat.add_assoc, rk_two e, if_pos (by omega)]
        · have e1 : r + 1 = 8 ^ K := by omega
          rw [Nat.add_assoc, e1, show 8 ^ K * q + 8 ^ K = 8 ^ K * (q + 1) + 0 by rw [Nat.mul_add, Nat.mul_one, Nat.add_zero], rk_two h0, if_pos (by omega)]
theorem gdt_iff {S K c : Nat} : ∀ t, gdt S K c t = true ↔ ∀ j, j < t → dM c (K - 1 - j) < S
  | 0 => ⟨fun _ j hj => by omega, fun _ => rfl⟩
  | t + 1 => by
    have ih := gdt_iff (S := S) (K := K) (c := c) t
    show (decide (dM c (K - 1 - t) < S) && gdt S K c t) = true ↔ _
    rw [Bool.and_eq_true, decide_eq_true_eq, ih]
    constructor
    · rintro ⟨h1, h2⟩ j hj
      by_cases e : j = t
      · rw [e]
        exact h1
      · exact h2 j (by omega)
    · intro h
      exact ⟨h t (by omega), fun j hj => h j (by omega)⟩
theorem gdt_Gd {S K c : Nat} : gdt S K c K = true ↔ Gd S K c := by
  rw [gdt_iff]
  constructor
  · intro h i hi
    have := h (K - 1 - i) (by omega)
    rw [show K - 1 - (K - 1 - i) = i by omega] at this
    exact this
  · intro h j hj
    exact h (K - 1 - j) (by omega)
theorem rk_bad {S K c : Nat} (h1 : 1 ≤ S) (hS : S ≤ 8) (hc : c < 8 ^ K) (hg : gdt S K c K = false) : rk S K (c + 1) = rk S K c :=
  (rk_step h1 hS K c hc).2 (fun h => by rw [gdt_Gd.mpr h] at hg; cases hg)
theorem rk_good {S K c : Nat} (h1 : 1 ≤ S) (hS : S ≤ 8) (hc : c < 8 ^ K) (hg : gdt S K c K = true) : rk S K (c + 1) = rk S K c + 1 ∧ rk S K c < S ^ K ∧ ∀ i, i < K → rk S K c / S ^ i % S = dM c i :=
  (rk_step h1 hS K c hc).1 (gdt_Gd.mp hg)
/-- digits laid into a row, the lowest last -/
def layF (b left t1 : Nat) (laid : Nat → Int32) : Nat → Int32 := fun i => if i < t1 then nI (left / b ^ (t1 - 1 - i) % b) else laid i
theorem layF_0 (b left : Nat) (laid : Nat → Int32) : layF b left 0 laid = laid := by
  funext i
  exact if_neg (by omega)
theorem layF_step (b left t : Nat) (laid : Nat → Int32) : layF b (left / b) t (upd laid t (nI (left % b))) = layF b left (t + 1) laid := by
  funext i
  unfold layF
  by_cases h : i < t
  · rw [if_pos h, if_pos (by omega), show t + 1 - 1 - i = (t - 1 - i) + 1 by omega, Nat.pow_succ, Nat.mul_comm, ← Nat.div_div_eq_div_mul]
  · rw [if_neg h]
    by_cases e : i = t
    · rw [e, upd_self, if_pos (by omega), show t + 1 - 1 - t = 0 by omega, Nat.pow_zero, Nat.div_one]
    · rw [upd_ne _ _ e, if_neg (by omega)]
theorem layF_t (b left t : Nat) (laid : Nat → Int32) : layF b left (t + 1) laid t = nI (left % b) := by
  rw [← layF_step]
  unfold layF
  rw [if_neg (by omega), upd_self]
def okt (S K : Nat) (G : Nat → Int32) (t : Nat) : Bool := decide (¬ nI S ≤ G t) && allF (fun o => decide (¬ G o = G t)) (t + 1) (K - (t + 1))
def vb (S K : Nat) (G : Nat → Int32) : Nat → Bool
  | 0 => true
  | t + 1 => okt S K G t && vb S K G t
theorem lays_in {K t : Nat} {G : Nat → Int32} (hK : K ≤ 4) (ht : t < 4) (kk : Int32 → Int32 → Option (Int32 × (Nat → Int32))) : ∀ (d o fu : Nat) (is : Bool), o + d = K → d < fu → FL_X9_lays_63 (nI K) (nI t) G kk fu (gB is) (nI o) = kk (gB (is && allF (fun o => decide (¬ G o = G t)) o d)) (nI K)
  | 0, o, fu + 1, is, ho, _ => by
    have e : o = K := by omega
    subst e
    unfold FL_X9_lays_63
    rw [if_pos (nI_le (Nat.le_refl _) (by omega))]
    show _ = kk (gB (is && true)) _
    rw [Bool.and_true]
  | d + 1, o, fu + 1, is, ho, hfu => by
    have ih := fun is => lays_in (G := G) hK ht kk d (o + 1) fu is (by omega) (by omega)
    have ko : (nI o).toNatClampNeg = o := nI_clamp (by omega)
    have kt : (nI t).toNatClampNeg = t := nI_clamp (by omega)
    unfold FL_X9_lays_63
    simp only [if_neg (nI_ge (a := o) (b := K) (by omega) (by omega)), if_pos (show gvp (nI o) 4 from gvp_nI (by omega) (by omega)), if_pos (show gvp (nI t) 4 from gvp_nI ht (by omega)), ko, kt, gB_if, nI_1]
    show _ = kk (gB (is && (decide (¬ G o = G t) && allF (fun o => decide (¬ G o = G t)) (o + 1) d))) _
    have i0 := ih false
    have i1 := ih true
    rw [gB_f] at i0
    rw [gB_t] at i1
    cases is
    · rw [if_neg (by decide), i0]
      rfl
    · rw [if_pos rfl]
      by_cases h : G o = G t
      · rw [if_pos h, i0]
        simp [h]
      · rw [if_neg h, i1]
        simp [h]
theorem lays_loop {S K : Nat} (hS : S ≤ 8) (hK : K ≤ 4) (kk : Int32 → Int32 → Int32 → (Nat → Int32) → Option (Int32 × (Nat → Int32))) : ∀ (t1 fu left : Nat) (is : Bool) (laid : Nat → Int32), t1 ≤ K → t1 < fu → left < 2 ^ 31 → FL_X9_lays_10 (nI S) (nI K) kk fu (nI left) (gB is) (nI t1 - 1) laid = kk (nI (left / 8 ^ t1)) (gB (is && vb S K (layF 8 left t1 laid) t1)) (-1) (layF 8 left t1 laid)
  | 0, fu + 1, left, is, laid, _, _, _ => by
    unfold FL_X9_lays_10
    rw [if_pos (by decide), layF_0, Nat.pow_zero, Nat.div_one]
    show _ = kk _ (gB (is && true)) _ _
    rw [Bool.and_true]
    rfl
  | t + 1, fu + 1, left, is, laid, ht, hfu, hl => by
    have hg := gN0_big
    have hl8 : left / 8 < 2 ^ 31 := Nat.lt_of_le_of_lt (Nat.div_le_self _ _) hl
    have ih := fun is => lays_loop hS hK kk t fu (left / 8) is (upd laid t (nI (left % 8))) (by omega) (by omega) hl8
    have kt : (nI t).toNatClampNeg = t := nI_clamp (by omega)
    have er : grem (nI left) 8 = nI (left % 8) := pk_rem (d := 8) hl (by omega) (by omega)
    have ed : nI left / 8 = nI (left / 8) := pk_div (d := 8) hl (by omega) (by omega)
    have em : nI t + (-1) = nI t - 1 := (Int32.sub_eq_add_neg _ _).symm
    have inn := fun (is : Bool) (k2 : Int32 → Int32 → Option (Int32 × (Nat → Int32))) => lays_in (G := upd laid t (nI (left % 8))) hK (show t < 4 by omega) k2 (K - (t + 1)) (t + 1) gN0 is (by omega) (by omega)
    unfold FL_X9_lays_10
    simp only [nI_pred, if_neg (nI_neg t (by omega)), if_pos (show gvp (nI t) 4 from gvp_nI (by omega) (by omega)), kt, er, ed, em, gB_if, nI_1]
    have hG : layF 8 (left / 8) t (upd laid t (nI (left % 8))) = layF 8 left (t + 1) laid := layF_step 8 left t laid
    have hsame : ∀ o, t ≤ o → upd laid t (nI (left % 8)) o = layF 8 left (t + 1) laid o := by
      intro o ho
      rw [← hG]
      unfold layF
      rw [if_neg (by omega)]
    have hall : ∀ d o, t ≤ o → allF (fun o => decide (¬ upd laid t (nI (left % 8)) o = upd laid t (nI (left % 8)) t)) o d = allF (fun o => decide (¬ layF 8 left (t + 1) laid o = layF 8 left (t + 1) laid t)) o d := by
      intro d
      induction d with
      | zero => intro o _; rfl
      | succ d ih2 =>
        intro o ho
        show (decide (¬ upd laid t (nI (left % 8)) o = upd laid t (nI (left % 8)) t) && _) = (decide (¬ layF 8 left (t + 1) laid o = layF 8 left (t + 1) laid t) && _)
        rw [ih2 (o + 1) (by omega), hsame o ho, hsame t (Nat.le_refl _)]
    have i0 := inn false
    have i1 := inn true
    rw [gB_f] at i0
    rw [gB_t] at i1
    have fin : ∀ q : Bool, q = (is && decide (¬ nI S ≤ layF 8 left (t + 1) laid t)) → FL_X9_lays_10 (nI S) (nI K) kk fu (nI (left / 8)) (gB (q && allF (fun o => decide (¬ upd laid t (nI (left % 8)) o = upd laid t (nI (left % 8)) t)) (t + 1) (K - (t + 1)))) (nI t - 1) (upd laid t (nI (left % 8))) = kk (nI (left / 8 ^ (t + 1))) (gB (is && vb S K (layF 8 left (t + 1) laid) (t + 1))) (-1) (layF 8 left (t + 1) laid) := by
      intro q hq
      rw [ih, hG, hall _ _ (by omega), hq, Nat.pow_succ, Nat.mul_comm, ← Nat.div_div_eq_div_mul]
      show kk _ (gB ((is && decide (¬ nI S ≤ layF 8 left (t + 1) laid t)) && allF (fun o => decide (¬ layF 8 left (t + 1) laid o = layF 8 left (t + 1) laid t)) (t + 1) (K - (t + 1)) && vb S K (layF 8 left (t + 1) laid) t)) _ _ = kk _ (gB (is && ((decide (¬ nI S ≤ layF 8 left (t + 1) laid t) && allF (fun o => decide (¬ layF 8 left (t + 1) laid o = layF 8 left (t + 1) laid t)) (t + 1) (K - (t + 1))) && vb S K (layF 8 left (t + 1) laid) t))) _ _
      rw [Bool.and_assoc, Bool.and_assoc, Bool.and_assoc]
    rw [show upd laid t (nI (left % 8)) t = layF 8 left (t + 1) laid t from hsame t (Nat.le_refl _)]
    cases is
    · rw [if_neg (by decide), i0]
      exact fin false rfl
    · rw [if_pos rfl]
      by_cases h : nI S ≤ layF 8 left (t + 1) laid t
      · rw [if_pos h, i0]
        exact fin false (by simp [h])
      · rw [if_neg h, i1]
        exact fin true (by simp [h])
theorem lays_mod {S K c : Nat} {laid : Nat → Int32} (hS : S ≤ 8) (hK : K ≤ 4) (hc : c < 2 ^ 31) : F_X9_lays (nI S) laid (nI c) (nI K) = some (gB (vb S K (layF 8 c K laid) K), layF 8 c K laid) := by
  have hg := gN0_big
  unfold F_X9_lays
  rw [show (1 : Int32) = gB true from rfl]
  have e := lays_loop hS hK (fun l3_10 l4_10 l5_10 a16_10 => if l4_10 &&& gB true = l4_10 then some (l4_10, a16_10) else none) K gN0 c true laid (Nat.le_refl _) (by omega) hc
  rw [show (1 : Int32) = gB true from rfl] at e
  rw [e, Bool.true_and]
  exact one_bit _ _ _
theorem dM_lt (c i : Nat) : dM c i < 8 := Nat.mod_lt _ (by decide)
theorem layF_at {K c t : Nat} {laid : Nat → Int32} (ht : t < K) : layF 8 c K laid t = nI (dM c (K - 1 - t)) := by
  unfold layF dM
  rw [if_pos ht]
theorem vb_eq {S K c : Nat} {laid : Nat → Int32} (hS : S ≤ 8) : ∀ t1, t1 ≤ K → vb S K (layF 8 c K laid) t1 = (gdt S K c t1 && vN K c t1)
  | 0, _ => rfl
  | t + 1, h => by
    have ih := vb_eq (K := K) (c := c) (laid := laid) hS t (by omega)
    have d1 := dM_lt c (K - 1 - t)
    have hall : ∀ d o, o + d = K → allF (fun o => decide (¬ layF 8 c K laid o = layF 8 c K laid t)) o d = allF (fun o => decide (¬ dM c (K - 1 - o) = dM c (K - 1 - t))) o d := by
      intro d
      induction d with
      | zero => intro o _; rfl
      | succ d ih2 =>
        intro o ho
        show (decide (¬ layF 8 c K laid o = layF 8 c K laid t) && _) = (decide (¬ dM c (K - 1 - o) = dM c (K - 1 - t)) && _)
        have d2 := dM_lt c (K - 1 - o)
        rw [ih2 (o + 1) (by omega), layF_at (K := K) (t := o) (by omega), layF_at (K := K) (t := t) (by omega)]
        have : (nI (dM c (K - 1 - o)) = nI (dM c (K - 1 - t))) ↔ dM c (K - 1 - o) = dM c (K - 1 - t) := nI_eq (by omega) (by omega)
        simp only [this]
    show (okt S K (layF 8 c K laid) t && vb S K (layF 8 c K laid) t) = ((decide (dM c (K - 1 - t) < S) && gdt S K c t) && (allF (fun o => decide (¬ dM c (K - 1 - o) = dM c (K - 1 - t))) (t + 1) (K - (t + 1)) && vN K c t))
    unfold okt
    rw [ih, hall _ _ (by omega), layF_at (t := t) (by omega)]
    have : (nI S ≤ nI (dM c (K - 1 - t))) ↔ ¬ dM c (K - 1 - t) < S := by
      rw [nI_leI (by omega) (by omega)]
      omega
    simp only [this, Classical.not_not]
    generalize decide (dM c (K - 1 - t) < S) = a
    generalize gdt S K c t = b
    generalize allF (fun o => decide (¬ dM c (K - 1 - o) = dM c (K - 1 - t))) (t + 1) (K - (t + 1)) = d
    generalize vN K c t = e
    cases a <;> cases b <;> cases d <;> cases e <;> rfl
/-! the class: the stalls that are used, as bits -/
def usF (b : Nat) : Nat → Nat → Nat → Nat
  | 0, _, u => u
  | t + 1, r, u => usF b t (r / b) (u ||| 2 ^ (r % b))
theorem usF_eq {S : Nat} : ∀ (t r c u : Nat), (∀ i, i < t → r / S ^ i % S = dM c i) → usF S t r u = usF 8 t c u
  | 0, _, _, _, _ => rfl
  | t + 1, r, c, u, h => by
    have h0 := h 0 (by omega)
    unfold dM at h0
    rw [Nat.pow_zero, Nat.pow_zero, Nat.div_one, Nat.div_one] at h0
    show usF S t (r / S) (u ||| 2 ^ (r % S)) = usF 8 t (c / 8) (u ||| 2 ^ (c % 8))
    rw [h0]
    refine usF_eq t (r / S) (c / 8) _ (fun i hi => ?_)
    have h1 := h (i + 1) (by omega)
    unfold dM at h1 ⊢
    rw [Nat.div_div_eq_div_mul, Nat.div_div_eq_div_mul, Nat.mul_comm S, Nat.mul_comm 8, ← Nat.pow_succ, ← Nat.pow_succ]
    exact h1
def pcn (s : Nat) : Nat := s % 2 + s / 2 % 2 + s / 4 % 2 + s / 8 % 2 + s / 16 % 2 + s / 32 % 2 + s / 64 % 2 + s / 128 % 2
theorem bitCount_pcn : ∀ s : Nat, s < 256 → F_bitCount (nI s) = some (nI (pcn s)) := by
  have key : ∀ s : Fin 256, F_bitCount (nI s.val) = some (nI (pcn s.val)) := by decide +kernel
  exact fun s hs => key ⟨s, hs⟩
theorem us_all : ∀ K : Fin 4, ∀ a : Fin 64, ∀ b : Fin 64, 64 * a.val + b.val < 8 ^ (K.val + 1) → usF 8 (K.val + 1) (64 * a.val + b.val) 0 < 256 ∧ pcn (usF 8 (K.val + 1) (64 * a.val + b.val) 0) ≤ 8 ∧ decide (pcn (usF 8 (K.val + 1) (64 * a.val + b.val) 0) = K.val + 1) = vN (K.val + 1) (64 * a.val + b.val) (K.val + 1) := by decide +kernel
theorem us_at {K c : Nat} (h1 : 1 ≤ K) (hK : K ≤ 4) (hc : c < 8 ^ K) : usF 8 K c 0 < 256 ∧ pcn (usF 8 K c 0) ≤ 8 ∧ decide (pcn (usF 8 K c 0) = K) = vN K c K := by
  have h8 := p8_le hK
  have h := us_all ⟨K - 1, by omega⟩ ⟨c / 64, by omega⟩ ⟨c % 64, by omega⟩
  have e : 64 * (c / 64) + c % 64 = c := Nat.div_add_mod c 64
  have e2 : K - 1 + 1 = K := by omega
  simp only [e, e2] at h
  exact h hc
theorem choose_loop {S : Nat} (h1 : 1 ≤ S) (hS : S ≤ 8) (kk : Int32 → Int32 → Int32 → (Nat → Int32) → Option (Int32 × (Nat → Int32))) : ∀ (t1 fu rest used : Nat) (tr : Nat → Int32), t1 ≤ 4 → t1 < fu → rest < 2 ^ 31 → FL_X3_choose_11 (nI S) kk fu (nI rest) (nI used) (nI t1 - 1) tr = kk (nI (rest / S ^ t1)) (nI (usF S t1 rest used)) (-1) (layF S rest t1 tr)
  | 0, fu + 1, rest, used, tr, _, _, _ => by
    unfold FL_X3_choose_11
    rw [if_pos (by decide), layF_0, Nat.pow_zero, Nat.div_one]
    rfl
  | t + 1, fu + 1, rest, used, tr, ht, hfu, hl => by
    have hl8 : rest / S < 2 ^ 31 := Nat.lt_of_le_of_lt (Nat.div_le_self _ _) hl
    have hm : rest % S < S := Nat.mod_lt _ (by omega)
    have ih := choose_loop h1 hS kk t fu (rest / S) (used ||| 2 ^ (rest % S)) (upd tr t (nI (rest % S))) (by omega) (by omega) hl8
    have kt : (nI t).toNatClampNeg = t := nI_clamp (by omega)
    have er : grem (nI rest) (nI S) = nI (rest % S) := pk_rem (d := S) hl (by omega) (by omega)
    have ed : nI rest / nI S = nI (rest / S) := pk_div (d := S) hl (by omega) (by omega)
    have em : nI t + (-1) = nI t - 1 := (Int32.sub_eq_add_neg _ _).symm
    have n0 : ¬ nI S = 0 := nI_ne0 (by omega) (by omega)
    unfold FL_X3_choose_11
    simp only [nI_pred, if_neg (nI_neg t (by omega)), if_neg (show ¬ nI S < 1 from nI_nlt (b := 1) (by omega) (by omega)), if_pos (show nI t < 4 from nI_lt (b := 4) (by omega) (by omega)), if_pos (show gvp (nI t) 4 from gvp_nI (by omega) (by omega)), kt, er, ed, em, upd_self, n0, not_false_eq_true, if_true]
    rw [nI_shl1 _ (by omega), nI_or, ih, layF_step, Nat.pow_succ, Nat.mul_comm, ← Nat.div_div_eq_div_mul]
    rfl
theorem choose_cls {S K c : Nat} {tr : Nat → Int32} (hS : S ≤ 8) (h1 : 1 ≤ K) (hK : K ≤ 4) (hSK : 1 ≤ S) (hc : c < 8 ^ K) (hg : gdt S K c K = true) : F_X3_choose tr (nI (rk S K c)) (nI K) (nI S) = some (gB (vN K c K), layF S (rk S K c) K tr) ∧ ∀ t, t < K → layF S (rk S K c) K tr t = nI (dM c (K - 1 - t)) := by
  have hgn := gN0_big
  obtain ⟨g1, g2, g3⟩ := rk_good hSK hS hc hg
  obtain ⟨u1, u2, u3⟩ := us_at h1 hK hc
  have hr : rk S K c < 2 ^ 31 := by
    have a1 : S ^ K ≤ 8 ^ K := Nat.pow_le_pow_left hS K
    have a2 := p8_le hK
    omega
  refine ⟨?_, fun t ht => ?_⟩
  · unfold F_X3_choose
    have e := choose_loop hSK hS (fun l4_11 l5_11 l6_11 a3_11 => (F_bitCount l5_11).bind fun r1 => if r1 = nI K then (some (1, a3_11)) else (some (0, a3_11))) K gN0 (rk S K c) 0 tr hK (by omega) hr
    rw [show nI 0 = (0 : Int32) from rfl] at e
    rw [e, usF_eq K _ c 0 g3, bitCount_pcn _ u1]
    simp only [Option.bind_some]
    rw [← u3]
    by_cases h : pcn (usF 8 K c 0) = K
    · rw [if_pos (by rw [h])]
      simp [h, gB]
    · rw [if_neg (by rw [nI_eq (by omega) (by omega)]; exact h)]
      simp [h, gB]
  · unfold layF
    rw [if_pos ht, g3 _ (by omega)]
