/-! The fan of arms, as both constructors fill it: 121 pairs, those of which no number divides both. -/
def za_c (m : Nat) : Bool := Nat.gcd (((m % 11 : Nat) : Int) - 5).natAbs (((m / 11 : Nat) : Int) - 5).natAbs == 1
def za_x (m : Nat) : Int32 := nI (m % 11) - 5
def za_y (m : Nat) : Int32 := nI (m / 11) - 5
def za_k : Nat → Nat
  | 0 => 0
  | m + 1 => if za_c m then za_k m + 1 else za_k m
def za_X : Nat → Nat → Int32
  | 0 => fun _ => 0
  | m + 1 => if za_c m then upd (za_X m) (za_k m) (za_x m) else za_X m
def za_Y : Nat → Nat → Int32
  | 0 => fun _ => 0
  | m + 1 => if za_c m then upd (za_Y m) (za_k m) (za_y m) else za_Y m
def za_G : Nat → Nat → Int32
  | 0 => fun _ => 0
  | m + 1 => if za_c m then upd (upd (za_G m) (za_k m) (za_x m)) (80 + za_k m) (za_y m) else za_G m
theorem za_f1 : ∀ m, m < 121 → za_c m = true → za_k m < 80 := by decide +kernel
theorem za_f2 : za_k 121 = 80 := by decide +kernel
theorem za_f3 : ∀ m, m < 121 → ¬ 5 < za_x m ∧ ¬ 6 ≤ za_x m := by decide +kernel
theorem za_f4 : ∀ m, m < 121 → (m + 1) % 11 ≠ 0 → za_x m + 1 = za_x (m + 1) ∧ za_y m = za_y (m + 1) := by decide +kernel
theorem za_f5 : ∀ m, m < 121 → (m + 1) % 11 = 0 → (5 < za_x m + 1 ∧ 6 ≤ za_x m + 1) ∧ (-5 : Int32) = za_x (m + 1) ∧ za_y m + 1 = za_y (m + 1) := by decide +kernel
theorem za_f6 : ∀ m, m < 121 → ¬ 5 < za_y m ∧ ¬ 6 ≤ za_y m := by decide +kernel
theorem za_f7 : 5 < za_y 121 ∧ 6 ≤ za_y 121 := by decide +kernel
theorem za_f8 : ∀ m, m < 121 → -9 ≤ (za_x m).toInt ∧ (za_x m).toInt ≤ 9 ∧ -9 ≤ (za_y m).toInt ∧ (za_y m).toInt ≤ 9 := by decide +kernel
theorem za_kle : ∀ m, za_k m ≤ m
  | 0 => Nat.le_refl 0
  | m + 1 => by
    have := za_kle m
    unfold za_k
    split <;> omega
/-- both fill alike -/
theorem za_fr : ∀ m, m ≤ 121 → za_k m ≤ 80 ∧ ∀ k, k < za_k m → za_G m k = za_X m k ∧ za_G m (80 + k) = za_Y m k ∧ arm (za_X m k) (za_Y m k) := by
  intro m
  induction m with
  | zero =>
    intro _
    exact ⟨Nat.zero_le _, fun k hk => absurd hk (Nat.not_lt_zero k)⟩
  | succ m ih =>
    intro hm
    obtain ⟨h1, h2⟩ := ih (by omega)
    unfold za_k za_G za_X za_Y
    by_cases hc : za_c m = true
    · simp only [hc, if_true]
      have h3 := za_f1 m (by omega) hc
      refine ⟨by omega, fun k hk => ?_⟩
      by_cases hk2 : k = za_k m
      · subst hk2
        have e1 : (za_k m = 80 + za_k m) = False := by
          apply propext
          constructor
          · intro h
            omega
          · exact False.elim
        have h8 := za_f8 m (by omega)
        refine ⟨?_, ?_, ?_⟩
        · simp [upd, e1]
        · simp [upd]
        · simp only [upd, if_true]
          exact ⟨⟨h8.1, h8.2.1⟩, h8.2.2.1, h8.2.2.2⟩
      · obtain ⟨a1, a2, a3⟩ := h2 k (by omega)
        have n1 : ¬ k = 80 + za_k m := by omega
        have n2 : ¬ 80 + k = 80 + za_k m := by omega
        have n3 : ¬ 80 + k = za_k m := by omega
        refine ⟨?_, ?_, ?_⟩
        · simp only [upd, if_neg hk2, if_neg n1]
          exact a1
        · simp only [upd, if_neg hk2, if_neg n2, if_neg n3]
          exact a2
        · simp only [upd, if_neg hk2]
          exact a3
    · have hc : za_c m = false := by simpa using hc
      simp only [hc]
      exact ⟨h1, h2⟩
theorem za_FR : FR (za_X 121) (za_Y 121) (za_G 121) := by
  intro k hk
  exact (za_fr 121 (Nat.le_refl _)).2 k (by rw [za_f2]; exact hk)
theorem za_up {P : Nat → Prop} (h : ∀ n, P n → P (n + 1)) {a : Nat} (ha : P a) : ∀ b, a ≤ b → P b := by
  intro b hb
  induction hb with
  | refl => exact ha
  | step _ ih => exact h _ ih
theorem za_hm (dx dy : Int32) (kk : Int32 → Option Int32) (r : Int32) : ∀ (fu : Nat) (l : Int32), FL_X1_haveDivisor_2 dx dy kk fu l = some r → FL_X1_haveDivisor_2 dx dy kk (fu + 1) l = some r
  | 0, l, h => by cases h
  | fu + 1, l, h => by
    unfold FL_X1_haveDivisor_2 at h ⊢
    by_cases c1 : 5 < l
    · rw [if_pos c1] at h ⊢
      exact h
    · rw [if_neg c1] at h ⊢
      by_cases c2 : ¬ l = 0
      · rw [if_pos c2] at h ⊢
        by_cases c3 : grem dx l = 0
        · rw [if_pos c3, if_pos c2] at h ⊢
          by_cases c4 : grem dy l = 0
          · rw [if_pos c4] at h ⊢
            exact h
          · rw [if_neg c4] at h ⊢
            exact za_hm dx dy kk r fu _ h
        · rw [if_neg c3] at h ⊢
          exact za_hm dx dy kk r fu _ h
      · rw [if_neg c2] at h
        cases h
theorem za_h6 : ∀ m, m < 121 → FL_X1_haveDivisor_2 (za_x m) (za_y m) (fun _ => some 0) 6 2 = some (if za_c m then 0 else 1) := by decide +kernel
theorem za_hd (m : Nat) (hm : m < 121) : F_X1_haveDivisor (za_x m) (za_y m) = some (if za_c m then 0 else 1) := by
  unfold F_X1_haveDivisor
  have hb := gN0_big
  exact za_up (P := fun n => FL_X1_haveDivisor_2 (za_x m) (za_y m) (fun _ => some 0) n 2 = some (if za_c m then 0 else 1)) (fun n h => za_hm _ _ _ _ n 2 h) (za_h6 m hm) gN0 (by omega)
theorem za_im (kk : Int32 → Int32 → Option Int32) (r : Int32) : ∀ (fu : Nat) (a b : Int32), FL_X9_isFan_22 kk fu a b = some r → FL_X9_isFan_22 kk (fu + 1) a b = some r
  | 0, a, b, h => by cases h
  | fu + 1, a, b, h => by
    unfold FL_X9_isFan_22 at h ⊢
    by_cases c1 : b ≤ 0
    · rw [if_pos c1] at h ⊢
      exact h
    · rw [if_neg c1] at h ⊢
      by_cases c2 : ¬ b = 0
      · rw [if_pos c2] at h ⊢
        exact za_im kk r fu _ _ h
      · rw [if_neg c2] at h
        cases h
noncomputable def za_I (n : Nat) (dx dy : Int32) : Option Int32 :=
  if 0 ≤ dx then (if 0 ≤ dy then (FL_X9_isFan_22 (fun l2_22 l3_22 => if l2_22 = 1 then (some 1) else (some 0)) n dx dy) else (FL_X9_isFan_22 (fun l2_22 l3_22 => if l2_22 = 1 then (some 1) else (some 0)) n dx (-dy))) else (if 0 ≤ dy then (FL_X9_isFan_22 (fun l2_22 l3_22 => if l2_22 = 1 then (some 1) else (some 0)) n (-dx) dy) else (FL_X9_isFan_22 (fun l2_22 l3_22 => if l2_22 = 1 then (some 1) else (some 0)) n (-dx) (-dy)))
theorem za_i8 : ∀ m, m < 121 → za_I 8 (za_x m) (za_y m) = some (if za_c m then 1 else 0) := by decide +kernel
theorem za_if (m : Nat) (hm : m < 121) : F_X9_isFan (za_x m) (za_y m) = some (if za_c m then 1 else 0) := by
  have hb := gN0_big
  refine za_up (P := fun n => za_I n (za_x m) (za_y m) = some (if za_c m then 1 else 0)) (fun n h => ?_) (za_i8 m hm) gN0 (by omega)
  unfold za_I at h ⊢
  by_cases c1 : 0 ≤ za_x m
  · rw [if_pos c1] at h ⊢
    by_cases c2 : 0 ≤ za_y m
    · rw [if_pos c2] at h ⊢
      exact za_im _ _ n _ _ h
    · rw [if_neg c2] at h ⊢
      exact za_im _ _ n _ _ h
  · rw [if_neg c1] at h ⊢
    by_cases c2 : 0 ≤ za_y m
    · rw [if_pos c2] at h ⊢
      exact za_im _ _ n _ _ h
    · rw [if_neg c2] at h ⊢
      exact za_im _ _ n _ _ h
def R_X1_init : Room := { frames := 1, cells := 2, slots := 160, locals := 22 }
abbrev za_W (fx fy : Nat → Int32) : gW := [(0, .inr (1, [.ref 1, .ref 2])), (1, .inl (0, 80, .inl fx)), (2, .inl (0, 80, .inl fy))]
def za_E (N : Nat) (y : gS) : Prop := y.1 = 81 ∧ y.2.2.1 = [] ∧ y.2.2.2 = za_W (za_X N) (za_Y N)
theorem za_k1 (m : Nat) : za_k (m + 1) = if za_c m then za_k m + 1 else za_k m := rfl
theorem za_X1 (m : Nat) : za_X (m + 1) = if za_c m then upd (za_X m) (za_k m) (za_x m) else za_X m := rfl
theorem za_Y1 (m : Nat) : za_Y (m + 1) = if za_c m then upd (za_Y m) (za_k m) (za_y m) else za_Y m := rfl
theorem za_G1 (m : Nat) : za_G (m + 1) = if za_c m then upd (upd (za_G m) (za_k m) (za_x m)) (80 + za_k m) (za_y m) else za_G m := rfl
set_option maxRecDepth 100000 in
set_option maxHeartbeats 4000000 in
theorem za_step {E : gS → Prop} (x y : Int32) (k : Nat) (fx fy fx2 fy2 : Nat → Int32) (k2 : Nat) (cc : Bool) (hx : ¬ 5 < x) (hF : F_X1_haveDivisor x y = some (if cc then 0 else 1)) (hk : cc = true → k < 80) (e1 : k2 = if cc then k + 1 else k) (e2 : fx2 = if cc then upd fx k x else fx) (e3 : fy2 = if cc then upd fy k y else fy) (tail : Go mX1_init R_X1_init E (69, [(0, .ref 0), (1, .int (nI k2)), (2, .int y), (3, .int x)], [], za_W fx2 fy2)) : Go mX1_init R_X1_init E (33, [(0, .ref 0), (1, .int (nI k)), (2, .int y), (3, .int x)], [], za_W fx fy) := by
  refine Go.run qX1_init IX1_ok 19 2 (35, [(0, .ref 0), (1, .int (nI k)), (2, .int y), (3, .int x)], [.int 5, .int x], za_W fx fy) [] rfl trivial ?_
  refine Tc_gt qX1_init 21 40 75 rfl rfl (fun h9 => absurd h9 hx) (fun _ => ?_)
  refine Go.run qX1_init IX1_ok 22 2 (41, [(0, .ref 0), (1, .int (nI k)), (2, .int y), (3, .int x)], [.int 80, .int (nI k)], za_W fx fy) [] rfl trivial ?_
  cases cc with
  | true =>
    have hk := hk rfl
    have hF : F_X1_haveDivisor x y = some 0 := hF
    have e1 : k2 = k + 1 := e1
    have e2 : fx2 = upd fx k x := e2
    have e3 : fy2 = upd fy k y := e3
    subst e1
    subst e2
    subst e3
    have hcl := nI_clamp (n := k) (by omega)
    have hgv : gvp (nI k) 80 := nI_in hk (by decide)
    refine Tc_ge qX1_init 24 28 69 rfl rfl (fun h9 => absurd h9 (nI_ge (a := k) (b := 80) hk (by decide))) (fun _ => ?_)
    refine Go.run qX1_init IX1_ok 25 2 (46, [(0, .ref 0), (1, .int (nI k)), (2, .int y), (3, .int x)], [.int y, .int x], za_W fx fy) [] rfl trivial ?_
    refine Tk_s qX1_init 27 rfl (c_X1_haveDivisor x y 0 hF) kX1_16 (fun k => k) [] rfl rfl rfl rfl ⟨rfl, rfl, by decide, by decide⟩ [] rfl (Nat.le_of_ble_eq_true rfl) [.int 0] rfl (za_W fx fy) rfl ?_
    refine Ti_ne qX1_init 28 20 69 rfl rfl (fun h9 => absurd rfl h9) (fun _ => ?_)
    refine Go.run qX1_init IX1_ok 29 11 (69, [(1, .int (nI k + 1)), (0, .ref 0), (2, .int y), (3, .int x)], [], za_W (upd fx (nI k).toNatClampNeg x) (upd fy (nI k).toNatClampNeg y)) [gvp (nI k) 80, gvp (nI k) 80] rfl ⟨hgv, hgv, trivial⟩ ?_
    rw [hcl, nI_1]
    refine Go.loc [1, 0, 2, 3] rfl ?_
    exact tail
  | false =>
    have hF : F_X1_haveDivisor x y = some 1 := hF
    have e1 : k2 = k := e1
    have e2 : fx2 = fx := e2
    have e3 : fy2 = fy := e3
    subst e1
    subst e2
    subst e3
    refine Tc_ge qX1_init 24 28 69 rfl rfl (fun _ => tail) (fun _ => ?_)
    refine Go.run qX1_init IX1_ok 25 2 (46, [(0, .ref 0), (1, .int (nI k2)), (2, .int y), (3, .int x)], [.int y, .int x], za_W fx2 fy2) [] rfl trivial ?_
    refine Tk_s qX1_init 27 rfl (c_X1_haveDivisor x y 1 hF) kX1_16 (fun k => k) [] rfl rfl rfl rfl ⟨rfl, rfl, by decide, by decide⟩ [] rfl (Nat.le_of_ble_eq_true rfl) [.int 1] rfl (za_W fx2 fy2) rfl ?_
    exact Ti_ne qX1_init 28 20 69 rfl rfl (fun _ => tail) (fun h9 => absurd h9 (by decide))
set_option maxRecDepth 100000 in
set_option maxHeartbeats 4000000 in
/-- behind a pair: the next of its row -/
theorem za_col {E : gS → Prop} (x y x2 y2 : Int32) (k : Nat) (fx fy : Nat → Int32) (h1 : x + 1 = x2) (h2 : y = y2) (go : Go mX1_init R_X1_init E (33, [(0, .ref 0), (1, .int (nI k)), (2, .int y2), (3, .int x2)], [], za_W fx fy)) : Go mX1_init R_X1_init E (69, [(0, .ref 0), (1, .int (nI k)), (2, .int y), (3, .int x)], [], za_W fx fy) := by
  refine Go.run qX1_init IX1_ok 40 2 (33, [(3, .int (x + 1)), (0, .ref 0), (1, .int (nI k)), (2, .int y)], [], za_W fx fy) [] rfl trivial ?_
  refine Go.loc [1, 2, 3, 0] rfl ?_
  rw [h1, h2]
  exact go
set_option maxRecDepth 100000 in
set_option maxHeartbeats 4000000 in
/-- behind a row's last pair -/
theorem za_line {E : gS → Prop} (x y : Int32) (k : Nat) (fx fy : Nat → Int32) (b1 : 5 < x + 1) (go : Go mX1_init R_X1_init E (25, [(2, .int (y + 1)), (3, .int (x + 1)), (0, .ref 0), (1, .int (nI k))], [], za_W fx fy)) : Go mX1_init R_X1_init E (69, [(0, .ref 0), (1, .int (nI k)), (2, .int y), (3, .int x)], [], za_W fx fy) := by
  refine Go.run qX1_init IX1_ok 40 2 (33, [(3, .int (x + 1)), (0, .ref 0), (1, .int (nI k)), (2, .int y)], [], za_W fx fy) [] rfl trivial ?_
  refine Go.run qX1_init IX1_ok 19 2 (35, [(3, .int (x + 1)), (0, .ref 0), (1, .int (nI k)), (2, .int y)], [.int 5, .int (x + 1)], za_W fx fy) [] rfl trivial ?_
  refine Tc_gt qX1_init 21 40 75 rfl rfl (fun _ => ?_) (fun h9 => absurd b1 h9)
  refine Go.run qX1_init IX1_ok 42 2 (25, [(2, .int (y + 1)), (3, .int (x + 1)), (0, .ref 0), (1, .int (nI k))], [], za_W fx fy) [] rfl trivial ?_
  exact go
set_option maxRecDepth 100000 in
set_option maxHeartbeats 4000000 in
theorem za_row {E : gS → Prop} (x y x2 y2 : Int32) (k : Nat) (fx fy : Nat → Int32) (b1 : 5 < x + 1) (h1 : (-5 : Int32) = x2) (h2 : y + 1 = y2) (h3 : ¬ 5 < y2) (go : Go mX1_init R_X1_init E (33, [(0, .ref 0), (1, .int (nI k)), (2, .int y2), (3, .int x2)], [], za_W fx fy)) : Go mX1_init R_X1_init E (69, [(0, .ref 0), (1, .int (nI k)), (2, .int y), (3, .int x)], [], za_W fx fy) := by
  refine za_line x y k fx fy b1 ?_
  rw [h2]
  refine Go.run qX1_init IX1_ok 14 2 (27, [(2, .int y2), (3, .int (x + 1)), (0, .ref 0), (1, .int (nI k))], [.int 5, .int y2], za_W fx fy) [] rfl trivial ?_
  refine Tc_gt qX1_init 16 54 81 rfl rfl (fun h9 => absurd h9 h3) (fun _ => ?_)
  refine Go.run qX1_init IX1_ok 17 2 (33, [(3, .int (-5)), (2, .int y2), (0, .ref 0), (1, .int (nI k))], [], za_W fx fy) [] rfl trivial ?_
  refine Go.loc [2, 3, 1, 0] rfl ?_
  rw [h1]
  exact go
set_option maxRecDepth 100000 in
set_option maxHeartbeats 4000000 in
theorem za_last {E : gS → Prop} (x y : Int32) (k : Nat) (fx fy : Nat → Int32) (b1 : 5 < x + 1) (h3 : 5 < y + 1) (hE : ∀ lv, E (81, lv, [], za_W fx fy)) : Go mX1_init R_X1_init E (69, [(0, .ref 0), (1, .int (nI k)), (2, .int y), (3, .int x)], [], za_W fx fy) := by
  refine za_line x y k fx fy b1 ?_
  refine Go.run qX1_init IX1_ok 14 2 (27, [(2, .int (y + 1)), (3, .int (x + 1)), (0, .ref 0), (1, .int (nI k))], [.int 5, .int (y + 1)], za_W fx fy) [] rfl trivial ?_
  exact Tc_gt qX1_init 16 54 81 rfl rfl (fun _ => Go.exit (hE _)) (fun h9 => absurd h3 h9)
theorem za_fan (N : Nat) (hN : N = 121) : ∀ (d m : Nat), m + d + 1 = N → Go mX1_init R_X1_init (za_E N) (33, [(0, .ref 0), (1, .int (nI (za_k m))), (2, .int (za_y m)), (3, .int (za_x m))], [], za_W (za_X m) (za_Y m)) := by
  intro d
  induction d with
  | zero =>
    intro m hmd
    have hm : m < 121 := by omega
    refine za_step _ _ _ _ _ _ _ _ _ (za_f3 m hm).1 (za_hd m hm) (za_f1 m hm) (za_k1 m) (za_X1 m) (za_Y1 m) ?_
    have h11 : (m + 1) % 11 = 0 := by omega
    obtain ⟨b1, b2, b3⟩ := za_f5 m hm h11
    have h7 : 5 < za_y m + 1 := by
      rw [b3, show m + 1 = 121 by omega]
      exact za_f7.1
    refine za_last _ _ _ _ _ b1.1 h7 (fun lv => ?_)
    have e : N = m + 1 := by omega
    rw [e]
    exact ⟨rfl, rfl, rfl⟩
  | succ d ih =>
    intro m hmd
    have hm : m < 121 := by omega
    have ih := ih (m + 1) (by omega)
    have h6 := (za_f6 (m + 1) (by omega)).1
    refine za_step _ _ _ _ _ _ _ _ _ (za_f3 m hm).1 (za_hd m hm) (za_f1 m hm) (za_k1 m) (za_X1 m) (za_Y1 m) ?_
    by_cases h11 : (m + 1) % 11 = 0
    · obtain ⟨b1, b2, b3⟩ := za_f5 m hm h11
      exact za_row _ _ _ _ _ _ _ b1.1 b2 b3 h6 ih
    · obtain ⟨b1, b2⟩ := za_f4 m hm h11
      exact za_col _ _ _ _ _ _ _ b1 b2 ih
