/-! The fewest sets of a kind whose union is a set: what both tables hold. -/
def uni : List Nat → Nat
  | [] => 0
  | m :: l => m ||| uni l
theorem uni_test : ∀ (l : List Nat) (i : Nat), (uni l).testBit i = true ↔ ∃ m, m ∈ l ∧ m.testBit i = true
  | [], i => by simp [uni]
  | m :: l, i => by
    rw [uni, Nat.testBit_or, Bool.or_eq_true, uni_test l i]
    constructor
    · rintro (h | ⟨q, h1, h2⟩)
      · exact ⟨m, List.mem_cons_self, h⟩
      · exact ⟨q, List.mem_cons_of_mem _ h1, h2⟩
    · rintro ⟨q, h1, h2⟩
      rcases List.mem_cons.mp h1 with rfl | h1
      · exact Or.inl h2
      · exact Or.inr ⟨q, h1, h2⟩
def subs (a b : Nat) : Prop := ∀ i, a.testBit i = true → b.testBit i = true
theorem subs_le {a b : Nat} (h : subs a b) : a ≤ b := by
  have e : a = a &&& b := by
    apply Nat.eq_of_testBit_eq
    intro i
    rw [Nat.testBit_and]
    cases ha : a.testBit i with
    | false => rfl
    | true => rw [h i ha]; rfl
  rw [e]
  exact Nat.and_le_right
theorem subs_anti {a b : Nat} (h1 : subs a b) (h2 : subs b a) : a = b := Nat.le_antisymm (subs_le h1) (subs_le h2)
/-- n sets of the kind M whose union is p -/
def covs (M : Nat → Prop) (n p : Nat) : Prop := ∃ l : List Nat, l.length = n ∧ (∀ m, m ∈ l → M m) ∧ uni l = p
/-- the answer: the least n, or none -/
def fewI (M : Nat → Prop) (p : Nat) (r : Option Nat) : Prop := match r with
  | some n => covs M n p ∧ (∀ k, covs M k p → n ≤ k) ∧ n ≤ 10
  | none => ∀ k, ¬ covs M k p
theorem fewI_one {M : Nat → Prop} {p : Nat} {r r' : Option Nat} (h : fewI M p r) (h' : fewI M p r') : r = r' := by
  cases r with
  | none =>
    cases r' with
    | none => rfl
    | some n => exact absurd h'.1 (h n)
  | some n =>
    cases r' with
    | none => exact absurd h.1 (h' n)
    | some k => exact congrArg some (Nat.le_antisymm (h.2.1 k h'.1) (h'.2.1 n h.1))
theorem fewI_congr {M N : Nat → Prop} {p : Nat} {r : Option Nat} (e : ∀ m, M m ↔ N m) (h : fewI M p r) : fewI N p r := by
  have : M = N := funext (fun m => propext (e m))
  rw [← this]
  exact h
/-- a cover of few sets, one for each number -/
theorem cov_small {M : Nat → Prop} {S : Nat} {l : List Nat} (hl : ∀ m, m ∈ l → M m) (hu : uni l = S) : ∀ n, ∃ l' : List Nat, l'.length ≤ n ∧ (∀ m, m ∈ l' → M m ∧ m ∈ l) ∧ ∀ i, i < n → S.testBit i = true → ∃ m, m ∈ l' ∧ m.testBit i = true
  | 0 => ⟨[], Nat.le_refl 0, fun m h => absurd h List.not_mem_nil, fun i h => by omega⟩
  | n + 1 => by
    obtain ⟨l', h1, h2, h3⟩ := cov_small hl hu n
    by_cases hb : S.testBit n = true
    · have : ∃ m, m ∈ l ∧ m.testBit n = true := (uni_test l n).mp (by rw [hu]; exact hb)
      obtain ⟨m, hm, hmb⟩ := this
      refine ⟨m :: l', by simp; omega, ?_, ?_⟩
      · intro q hq
        rcases List.mem_cons.mp hq with rfl | hq
        · exact ⟨hl _ hm, hm⟩
        · exact h2 q hq
      · intro i hi hSi
        rcases Nat.lt_or_ge i n with h4 | h4
        · obtain ⟨q, q1, q2⟩ := h3 i h4 hSi
          exact ⟨q, List.mem_cons_of_mem _ q1, q2⟩
        · have : i = n := by omega
          subst this
          exact ⟨m, List.mem_cons_self, hmb⟩
    · refine ⟨l', by omega, h2, ?_⟩
      intro i hi hSi
      rcases Nat.lt_or_ge i n with h4 | h4
      · exact h3 i h4 hSi
      · have : i = n := by omega
        subst this
        exact absurd hSi hb
theorem bit_lt {s i : Nat} (hs : s < 1024) (h : s.testBit i = true) : i < 10 := by
  refine Nat.lt_of_not_le (fun h2 => ?_)
  have := Nat.testBit_lt_two_pow (x := s) (i := i) (Nat.lt_of_lt_of_le hs (Nat.pow_le_pow_right (n := 2) (by decide) h2))
  rw [this] at h
  cases h
/-- where sets of the kind lie within S, covering is making -/
theorem cov_made {M : Nat → Prop} {S : Nat} (hM : ∀ m, M m → subs m S) {l : List Nat} (hl : ∀ m, m ∈ l → M m) (hc : ∀ i, S.testBit i = true → ∃ m, m ∈ l ∧ m.testBit i = true) : uni l = S := by
  apply subs_anti
  · intro i hi
    obtain ⟨m, h1, h2⟩ := (uni_test l i).mp hi
    exact hM m (hl m h1) i h2
  · intro i hi
    exact (uni_test l i).mpr (hc i hi)
theorem cov_ten {M : Nat → Prop} {S : Nat} (hS : S < 1024) (hM : ∀ m, M m → subs m S) {k : Nat} (h : covs M k S) : ∃ n, n ≤ 10 ∧ covs M n S := by
  obtain ⟨l, -, hl, hu⟩ := h
  obtain ⟨l', h1, h2, h3⟩ := cov_small hl hu 10
  exact ⟨l'.length, h1, l', rfl, fun m hm => (h2 m hm).1, cov_made hM (fun m hm => (h2 m hm).1) (fun i hi => h3 i (bit_lt hS hi) hi)⟩
/-- the class's table at its end -/
theorem least_end {M : Nat → Prop} {S : Nat} (hS : S < 1024) (hM : ∀ m, M m → subs m S) {v : Nat → Nat} (h0 : v 0 = 0) (hs : ∀ p, p ≤ S → v p < 100 → covs M (v p) p) (hc : ∀ r m, r < S → M m → r ||| m ≤ S → v (r ||| m) ≤ v r + 1) : fewI M S (if v S < 100 then some (v S) else none) := by
  have key : ∀ l : List Nat, (∀ m, m ∈ l → M m) → v (uni l) ≤ l.length := by
    intro l
    induction l with
    | nil => intro _; simp [uni, h0]
    | cons m l ih =>
      intro hl
      have ih := ih (fun q hq => hl q (List.mem_cons_of_mem _ hq))
      have hsub : ∀ l : List Nat, (∀ m, m ∈ l → M m) → subs (uni l) S := by
        intro l hl i hi
        obtain ⟨q, q1, q2⟩ := (uni_test l i).mp hi
        exact hM q (hl q q1) i q2
      have hle := subs_le (hsub l (fun q hq => hl q (List.mem_cons_of_mem _ hq)))
      have hle2 := subs_le (hsub (m :: l) hl)
      rcases Nat.lt_or_ge (uni l) S with h1 | h1
      · have := hc (uni l) m h1 (hl m List.mem_cons_self) (by rw [Nat.or_comm]; exact hle2)
        rw [uni, Nat.or_comm]
        simp
        omega
      · have e1 : uni l = S := by omega
        have e2 : uni (m :: l) = S := by
          refine Nat.le_antisymm hle2 ?_
          rw [uni, e1]
          exact Nat.right_le_or
        rw [e2, ← e1]
        simp
        omega
  by_cases hv : v S < 100
  · rw [if_pos hv]
    have hd := hs S (Nat.le_refl _) hv
    refine ⟨hd, ?_, ?_⟩
    · rintro k ⟨l, rfl, h2, h3⟩
      rw [← h3]
      exact key l h2
    · obtain ⟨n, hn, l, rfl, h2, h3⟩ := cov_ten hS hM hd
      have := key l h2
      rw [h3] at this
      omega
  · rw [if_neg hv]
    intro k hk
    obtain ⟨n, hn, l, rfl, h2, h3⟩ := cov_ten hS hM hk
    have := key l h2
    rw [h3] at this
    omega
/-- what is left of a set -/
def lft (a m : Nat) : Nat := a &&& (1023 ^^^ m)
theorem t1023 {i : Nat} (h : i < 10) : (1023 : Nat).testBit i = true := by
  have : ∀ i : Fin 10, (1023 : Nat).testBit i.val = true := by decide
  exact this ⟨i, h⟩
theorem lft_test {a m : Nat} (ha : a < 1024) (i : Nat) : (lft a m).testBit i = (a.testBit i && !m.testBit i) := by
  unfold lft
  rw [Nat.testBit_and, Nat.testBit_xor]
  cases h : a.testBit i with
  | false => rfl
  | true =>
    rw [t1023 (bit_lt ha h)]
    cases m.testBit i <;> rfl
theorem lft_lt {a m : Nat} (ha : a < 1024) : lft a m < 1024 := Nat.lt_of_le_of_lt Nat.and_le_left ha
theorem lft_less {a m i : Nat} (ha : a < 1024) (h1 : a.testBit i = true) (h2 : m.testBit i = true) : lft a m < a := by
  refine Nat.lt_of_le_of_ne Nat.and_le_left (fun e => ?_)
  have := lft_test (m := m) ha i
  rw [e, h1, h2] at this
  cases this
/-- the model's table: within S, each entry from lesser ones by sets that hold its lowest number -/
theorem few_end {M : Nat → Prop} {S : Nat} (hS : S < 1024) (hM : ∀ m, M m → subs m S) {w : Nat → Nat} (h0 : w 0 = 0) (hs : ∀ p, p ≠ 0 → subs p S → w p < 99 → ∃ m, M m ∧ m.testBit (low p) = true ∧ w p = w (lft p m) + 1) (hc : ∀ p m, p ≠ 0 → subs p S → M m → m.testBit (low p) = true → w p ≤ w (lft p m) + 1) (hb : ∀ p, subs p S → w p ≤ 99) : fewI M S (if w S < 99 then some (w S) else none) ∧ (¬ w S < 99 → w S = 99) := by
  have sub_lft : ∀ {p m : Nat}, subs p S → subs (lft p m) S := by
    intro p m hp i hi
    have hpl : p < 1024 := Nat.lt_of_le_of_lt (subs_le hp) hS
    rw [lft_test hpl, Bool.and_eq_true] at hi
    exact hp i hi.1
  -- soundness
  have snd : ∀ n p, p ≤ n → subs p S → w p < 99 → ∃ l : List Nat, l.length = w p ∧ (∀ m, m ∈ l → M m) ∧ ∀ i, p.testBit i = true → ∃ m, m ∈ l ∧ m.testBit i = true := by
    intro n
    induction n with
    | zero =>
      intro p hp _ _
      have : p = 0 := by omega
      subst this
      exact ⟨[], by rw [h0]; rfl, fun m h => absurd h List.not_mem_nil, fun i hi => by simp at hi⟩
    | succ n ih =>
      intro p hp hsub hw
      by_cases hz : p = 0
      · subst hz
        exact ⟨[], by rw [h0]; rfl, fun m h => absurd h List.not_mem_nil, fun i hi => by simp at hi⟩
      · have hpl : p < 1024 := Nat.lt_of_le_of_lt (subs_le hsub) hS
        obtain ⟨m, m1, m2, m3⟩ := hs p hz hsub hw
        have hlow := (low_spec p hpl hz).1
        have hless := lft_less hpl hlow m2
        obtain ⟨l, l1, l2, l3⟩ := ih (lft p m) (by omega) (sub_lft hsub) (by omega)
        refine ⟨m :: l, by simp; omega, ?_, ?_⟩
        · intro q hq
          rcases List.mem_cons.mp hq with rfl | hq
          · exact m1
          · exact l2 q hq
        · intro i hi
          cases hm : m.testBit i with
          | true => exact ⟨m, List.mem_cons_self, hm⟩
          | false =>
            obtain ⟨q, q1, q2⟩ := l3 i (by rw [lft_test hpl, hi, hm]; rfl)
            exact ⟨q, List.mem_cons_of_mem _ q1, q2⟩
  -- completeness
  have cmp : ∀ n p, p ≤ n → subs p S → ∀ l : List Nat, (∀ m, m ∈ l → M m) → (∀ i, p.testBit i = true → ∃ m, m ∈ l ∧ m.testBit i = true) → w p ≤ l.length := by
    intro n
    induction n with
    | zero =>
      intro p hp _ l _ _
      have : p = 0 := by omega
      subst this
      rw [h0]
      exact Nat.zero_le _
    | succ n ih =>
      intro p hp hsub l hl hcov
      by_cases hz : p = 0
      · subst hz
        rw [h0]
        exact Nat.zero_le _
      · have hpl : p < 1024 := Nat.lt_of_le_of_lt (subs_le hsub) hS
        have hlow := (low_spec p hpl hz).1
        obtain ⟨m, m1, m2⟩ := hcov _ hlow
        have hless := lft_less hpl hlow m2
        have := ih (lft p m) (by omega) (sub_lft hsub) (l.erase m) (fun q hq => hl q (List.mem_of_mem_erase hq)) (by
          intro i hi
          rw [lft_test hpl, Bool.and_eq_true, Bool.not_eq_true'] at hi
          obtain ⟨q, q1, q2⟩ := hcov i hi.1
          have hqm : q ≠ m := by
            intro e
            rw [e, hi.2] at q2
            cases q2
          exact ⟨q, (List.mem_erase_of_ne hqm).mpr q1, q2⟩)
        have h2 := hc p m hz hsub (hl m m1) m2
        have h3 : (l.erase m).length = l.length - 1 := List.length_erase_of_mem m1
        have h4 : 0 < l.length := List.length_pos_of_mem m1
        omega
  have sS : subs S S := fun _ h => h
  by_cases hw : w S < 99
  · rw [if_pos hw]
    refine ⟨?_, fun h => absurd hw h⟩
    obtain ⟨l, l1, l2, l3⟩ := snd S S (Nat.le_refl _) sS hw
    have hd : covs M (w S) S := ⟨l, l1, l2, cov_made hM l2 l3⟩
    have hmin : ∀ k, covs M k S → w S ≤ k := by
      rintro k ⟨l', rfl, q2, q3⟩
      exact cmp S S (Nat.le_refl _) sS l' q2 (fun i hi => (uni_test l' i).mp (by rw [q3]; exact hi))
    refine ⟨hd, hmin, ?_⟩
    obtain ⟨n, hn, hcn⟩ := cov_ten hS hM hd
    exact Nat.le_trans (hmin n hcn) hn
  · rw [if_neg hw]
    refine ⟨?_, fun _ => by have := hb S sS; omega⟩
    intro k hk
    obtain ⟨n, hn, l', rfl, q2, q3⟩ := cov_ten hS hM hk
    have := cmp S S (Nat.le_refl _) sS l' q2 (fun i hi => (uni_test l' i).mp (by rw [q3]; exact hi))
    omega
