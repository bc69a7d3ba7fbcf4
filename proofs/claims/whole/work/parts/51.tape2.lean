/-! The tape: bytes of a word; reading. -/
theorem tb255 (w j : Nat) (hw : 8 ≤ w) : (BitVec.ofNat w 255).getLsbD j = decide (j < 8) := by
  rw [BitVec.getLsbD_ofNat, show (255 : Nat) = 2 ^ 8 - 1 from rfl, Nat.testBit_two_pow_sub_one]
  by_cases h : j < 8
  · simp [h]
    omega
  · simp [h]
theorem byt_bv (x : BitVec 64) (s : Nat) (hs : s ≤ 56) : ((x >>> s).signExtend 32) &&& 255#32 = ((x.sshiftRight s) &&& 255#64).signExtend 32 := by
  apply BitVec.eq_of_getLsbD_eq
  intro j hj
  rw [BitVec.getLsbD_and, BitVec.getLsbD_signExtend, BitVec.getLsbD_signExtend, tb255 32 j (by omega), if_pos (by omega), if_pos (by omega), BitVec.getLsbD_and, tb255 64 j (by omega), BitVec.getLsbD_ushiftRight, BitVec.getLsbD_sshiftRight]
  by_cases h : j < 8
  · have h1 : s + j < 64 := by omega
    have h2 : ¬ 64 ≤ j := by omega
    simp [h, h1, h2, hj]
  · simp [h]
def bytM (ww : Int64) (i : Nat) : Int64 := glshr ww (nI (8 * i)) &&& 255
theorem byt_eq (ww : Int64) : ∀ i : Nat, i < 8 → (glushr ww (8 * nI i)).toInt32 &&& 255 = (bytM ww i).toInt32 := by
  intro i hi
  unfold bytM
  rw [show (8 : Int32) * nI i = nI (8 * i) from pk_mul 8 i]
  have e : (((ww.toUInt64 >>> ((nI (8 * i)).toInt64.toUInt64 &&& Int64.toUInt64 63)).toInt64).toInt32 &&& 255).toBitVec = (((ww >>> ((nI (8 * i)).toInt64 &&& 63)) &&& 255).toInt32).toBitVec := by
    have h1 : ((nI (8 * i)).toInt64.toUInt64 &&& Int64.toUInt64 63).toBitVec % 64 = BitVec.ofNat 64 (8 * i) := by
      rcases (show i = 0 ∨ i = 1 ∨ i = 2 ∨ i = 3 ∨ i = 4 ∨ i = 5 ∨ i = 6 ∨ i = 7 by omega) with rfl | rfl | rfl | rfl | rfl | rfl | rfl | rfl <;> decide +kernel
    have h2 : ((nI (8 * i)).toInt64 &&& 63).toBitVec.smod 64 = BitVec.ofNat 64 (8 * i) := by
      rcases (show i = 0 ∨ i = 1 ∨ i = 2 ∨ i = 3 ∨ i = 4 ∨ i = 5 ∨ i = 6 ∨ i = 7 by omega) with rfl | rfl | rfl | rfl | rfl | rfl | rfl | rfl <;> decide +kernel
    have b := byt_bv ww.toBitVec (8 * i) (by omega)
    show ((ww.toBitVec >>> (((nI (8 * i)).toInt64.toUInt64 &&& Int64.toUInt64 63).toBitVec % 64)).signExtend 32) &&& 255#32 = ((ww.toBitVec.sshiftRight' (((nI (8 * i)).toInt64 &&& 63).toBitVec.smod 64)) &&& 255#64).signExtend 32
    rw [h1, h2]
    have t : (BitVec.ofNat 64 (8 * i)).toNat = 8 * i := by
      rw [BitVec.toNat_ofNat]
      omega
    rw [BitVec.sshiftRight', t, BitVec.ushiftRight_eq', t]
    exact b
  exact Int32.toBitVec_inj.mp e
theorem and255 (x : Int64) : 0 ≤ (x &&& 255).toInt ∧ (x &&& 255).toInt ≤ 255 := by
  have e : (x &&& 255).toBitVec.toNat ≤ 255 := by
    show (x.toBitVec &&& 255#64).toNat ≤ 255
    rw [BitVec.toNat_and]
    exact Nat.and_le_right
  have : (x &&& 255).toInt = ((x &&& 255).toBitVec.toNat : Int) := by
    show (x &&& 255).toBitVec.toInt = _
    rw [BitVec.toInt_eq_toNat_of_lt (by omega)]
  omega
theorem byt_int (ww : Int64) (i : Nat) : (bytM ww i).toInt32.toInt = (bytM ww i).toInt := by
  have := and255 (glshr ww (nI (8 * i)))
  unfold bytM
  rw [Int64.toInt_toInt32, fb_bmod (by omega) (by omega)]
def bytB (ww : Int64) (i : Nat) : Bool := inb (bytM ww i).toInt 32 126
theorem hold_loop {ww : Int64} {k : Nat} (hk : k ≤ 8) (kk : Int32 → Option Int32) : ∀ (d c fu : Nat), c + d = k → d < fu → FL_X7_canHold_15 ww (nI k) kk fu (nI c) = if allF (bytB ww) c d = true then kk (nI k) else some 0
  | 0, c, fu + 1, hc, _ => by
    have e : c = k := by omega
    subst e
    unfold FL_X7_canHold_15
    rw [if_pos (nI_le (Nat.le_refl _) (by omega))]
    rfl
  | d + 1, c, fu + 1, hc, hfu => by
    have ih := hold_loop (ww := ww) hk kk d (c + 1) fu (by omega) (by omega)
    unfold FL_X7_canHold_15 F_X7_byteOf
    rw [if_neg (nI_ge (a := c) (b := k) (by omega) (by omega)), byt_eq ww c (by omega)]
    simp only [Option.bind_some, nI_1]
    have c1 : ((bytM ww c).toInt32 < 32) ↔ (bytM ww c).toInt < 32 := by
      rw [gI_lt, byt_int]
      rfl
    have c2 : ((bytM ww c).toInt32 ≤ 126) ↔ (bytM ww c).toInt ≤ 126 := by
      rw [gI_le, byt_int]
      rfl
    show _ = if (bytB ww c && allF (bytB ww) (c + 1) d) = true then _ else _
    cases e : bytB ww c
    · rcases inb_f.mp e with h | h
      · rw [if_pos (c1.mpr h)]
        rfl
      · rw [if_neg (by rw [c1]; omega), if_neg (by rw [c2]; omega)]
        rfl
    · have h := inb_t.mp e
      rw [if_neg (by rw [c1]; omega), if_pos (by rw [c2]; omega), ih, Bool.true_and]
theorem hold_mod {ww : Int64} {k : Nat} {tz : Int32} {tb : Nat → Int32} (hk : k ≤ 8) (kk : Int32 → Option (Int32 × Int32 × (Nat → Int32))) : ∀ (d c fu : Nat), c + d = k → d < fu → FL_X9_type_17 tz tb ww (nI k) kk fu (nI c) = if allF (bytB ww) c d = true then kk (nI k) else some (-1, tz, tb)
  | 0, c, fu + 1, hc, _ => by
    have e : c = k := by omega
    subst e
    unfold FL_X9_type_17
    rw [if_pos (nI_le (Nat.le_refl _) (by omega))]
    rfl
  | d + 1, c, fu + 1, hc, hfu => by
    have ih := hold_mod (ww := ww) (tz := tz) (tb := tb) hk kk d (c + 1) fu (by omega) (by omega)
    unfold FL_X9_type_17
    rw [if_neg (nI_ge (a := c) (b := k) (by omega) (by omega)), show (8 : Int32) * nI c = nI (8 * c) from pk_mul 8 c, in_mod]
    simp only [Option.bind_some, nI_1, gB_if]
    show (if bytB ww c = true then _ else _) = if (bytB ww c && allF (bytB ww) (c + 1) d) = true then _ else _
    cases e : bytB ww c
    · rfl
    · rw [if_pos rfl, ih, Bool.true_and]
/-- bytes laid behind each other, the highest first -/
def tpd (ww : Int64) : Nat → Nat → (Nat → Int32) → (Nat → Int32)
  | 0, _, f => f
  | c + 1, n, f => tpd ww c (n + 1) (upd f n (bytM ww c).toInt32)
theorem app_loop {ww : Int64} (kk : Int32 → Int32 → (Nat → Int32) → Option (Int32 × Int32 × (Nat → Int32))) : ∀ (c n fu : Nat) (f : Nat → Int32), c ≤ 8 → n + c ≤ 100 → c < fu → FL_X7_append_22 ww kk fu (nI c - 1) (nI n) f = kk (-1) (nI (n + c)) (tpd ww c n f)
  | 0, n, fu + 1, f, _, _, _ => by
    unfold FL_X7_append_22
    rw [if_pos (by decide)]
    rfl
  | c + 1, n, fu + 1, f, hc, hn, hfu => by
    have ih := app_loop (ww := ww) kk c (n + 1) fu (upd f n (bytM ww c).toInt32) (by omega) (by omega) (by omega)
    have c1 : (nI n).toNatClampNeg = n := nI_clamp (by omega)
    unfold FL_X7_append_22 F_X7_byteOf
    rw [show nI (c + 1) - 1 = nI c from by rw [← nI_1, nI_1, nI_pred], if_neg (nI_neg c (by omega)), byt_eq ww c (by omega)]
    simp only [Option.bind_some, if_pos (show gvp (nI n) 100 from gvp_nI (by omega) (by omega)), c1, nI_1]
    rw [show nI c + (-1) = nI c - 1 from (Int32.sub_eq_add_neg _ _).symm, ih, show n + (c + 1) = n + 1 + c by omega]
    rfl
theorem app_mod {ww : Int64} (kk : Int32 → Int32 → (Nat → Int32) → Option (Int32 × Int32 × (Nat → Int32))) : ∀ (c n fu : Nat) (f : Nat → Int32), c ≤ 8 → n + c ≤ 100 → c < fu → FL_X9_type_73 ww kk fu (nI c - 1) (nI n) f = kk (-1) (nI (n + c)) (tpd ww c n f)
  | 0, n, fu + 1, f, _, _, _ => by
    unfold FL_X9_type_73
    rw [if_pos (by decide)]
    rfl
  | c + 1, n, fu + 1, f, hc, hn, hfu => by
    have ih := app_mod (ww := ww) kk c (n + 1) fu (upd f n (bytM ww c).toInt32) (by omega) (by omega) (by omega)
    have c1 : (nI n).toNatClampNeg = n := nI_clamp (by omega)
    unfold FL_X9_type_73
    rw [show nI (c + 1) - 1 = nI c from by rw [← nI_1, nI_1, nI_pred], if_neg (nI_neg c (by omega)), show (8 : Int32) * nI c = nI (8 * c) from pk_mul 8 c]
    simp only [if_pos (show gvp (nI n) 100 from gvp_nI (by omega) (by omega)), c1, nI_1]
    rw [show nI c + (-1) = nI c - 1 from (Int32.sub_eq_add_neg _ _).symm]
    refine Eq.trans ih ?_
    rw [show n + (c + 1) = n + 1 + c by omega]
    rfl
/-- the tape: of class and model one function -/
def BR (n : Nat) (tb tape : Nat → Int32) : Prop := n ≤ 100 ∧ tape = tb ∧ ∀ i, i < n → Rg (tb i) 32 126
theorem allF_at {ok : Nat → Bool} : ∀ {d c : Nat}, allF ok c d = true → ∀ i, c ≤ i → i < c + d → ok i = true
  | 0, _, _, i, h1, h2 => by omega
  | d + 1, c, h, i, h1, h2 => by
    have h' : (ok c && allF ok (c + 1) d) = true := h
    rw [Bool.and_eq_true] at h'
    by_cases e : i = c
    · rw [e]
      exact h'.1
    · exact allF_at h'.2 i (by omega) (by omega)
theorem tpd_ok {ww : Int64} : ∀ (c n : Nat) (f : Nat → Int32), (∀ i, i < c → bytB ww i = true) → (∀ i, i < n → Rg (f i) 32 126) → ∀ i, i < n + c → Rg (tpd ww c n f i) 32 126
  | 0, n, f, _, h, i, hi => h i hi
  | c + 1, n, f, hb, h, i, hi => by
    refine tpd_ok c (n + 1) _ (fun i hi => hb i (by omega)) (fun i hi => ?_) i (by omega)
    by_cases e : i = n
    · rw [e, upd_self]
      have := inb_t.mp (hb c (by omega))
      exact ⟨by rw [byt_int]; omega, by rw [byt_int]; omega⟩
    · rw [upd_ne _ _ e]
      exact h i (by omega)
theorem eq_type {n : Nat} {tb tape : Nat → Int32} (h : BR n tb tape) (ww : Int64) (k : Int32) : ∃ (r : Int32) (n' : Nat) (tb' : Nat → Int32), F_X8_type (nI n) tb ww k = some (r, nI n', tb') ∧ F_X9_type (nI n) tape ww k = some (r, nI n', tb') ∧ BR n' tb' tb' := by
  obtain ⟨h1, rfl, h3⟩ := h
  have hg := gN0_big
  unfold F_X8_type F_X9_type F_X7_canHold
  rw [in_mod32]
  simp only [Option.bind_some, gB_if]
  have k1 : (k < 1) ↔ k.toInt < 1 := gI_lt k 1
  have k8 : (k ≤ 8) ↔ k.toInt ≤ 8 := gI_le k 8
  show ∃ (r : Int32) (n' : Nat) (tb' : Nat → Int32), _ = _ ∧ (if inb k.toInt 1 8 = true then _ else _) = _ ∧ _
  cases e : inb k.toInt 1 8
  · refine ⟨-1, n, tape, ?_, rfl, h1, rfl, h3⟩
    rcases inb_f.mp e with e1 | e1
    · rw [if_pos (k1.mpr e1)]
      rfl
    · rw [if_neg (by rw [k1]; omega), if_neg (by rw [k8]; omega)]
      rfl
  · have e1 := inb_t.mp e
    obtain ⟨c, hc, rfl, ec⟩ := nonneg_nI (i := k) (by omega)
    rw [if_neg (by rw [k1]; omega), if_pos (by rw [k8]; omega), if_pos rfl]
    have l1 := hold_loop (ww := ww) (k := c) (by omega) (fun _ => some 1) c 0 gN0 (by omega) (by omega)
    rw [show (nI 0 : Int32) = 0 from rfl] at l1
    rw [l1, show (0 : Int32) = nI 0 from rfl, hold_mod (ww := ww) (k := c) (by omega) _ c 0 gN0 (by omega) (by omega)]
    cases e2 : allF (bytB ww) 0 c
    · exact ⟨-1, n, tape, rfl, rfl, h1, rfl, h3⟩
    · simp only [if_true, Option.bind_some]
      rw [if_neg (by decide)]
      unfold F_X7_append
      rw [if_neg (nI_neg c (by omega)), nI_add]
      have kc : (nI c ≤ 100 - nI n) ↔ n + c ≤ 100 := by
        have s : (100 - nI n).toInt = 100 - n := by
          rw [fb_subI] <;> rw [nI_toInt (by omega), show (100 : Int32).toInt = 100 from rfl] <;> omega
        rw [gI_le, s, ec]
        omega
      have km : (nI (n + c) ≤ 100) ↔ n + c ≤ 100 := by
        rw [gI_le, nI_toInt (by omega), show (100 : Int32).toInt = 100 from rfl]
        omega
      by_cases e3 : n + c ≤ 100
      · rw [if_pos (kc.mpr e3), if_pos (km.mpr e3), app_loop _ c n gN0 tape (by omega) e3 (by omega), app_mod _ c n gN0 tape (by omega) e3 (by omega)]
        simp only [Option.bind_some, F_X7_size]
        refine ⟨nI (n + c), n + c, tpd ww c n tape, rfl, rfl, e3, rfl, tpd_ok c n tape (fun i hi => allF_at e2 i (by omega) (by omega)) h3⟩
      · rw [if_neg (by rw [kc]; exact e3), if_neg (by rw [km]; exact e3)]
        exact ⟨-3, n, tape, rfl, rfl, h1, rfl, h3⟩
