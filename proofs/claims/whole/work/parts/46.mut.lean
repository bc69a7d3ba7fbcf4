/-! The calls that change the scene: both sides answer alike and still agree. -/
theorem thR_at {f : Nat → Int32} {T i : Nat} {x y br : Int32} : thR f T x y br i = if i = 5 * T + 2 then br else if i = 5 * T + 1 then y else if i = 5 * T then x else if 5 * T ≤ i ∧ i < 5 * T + 5 then 0 else f i := by
  unfold thR zr upd
  rw [Nat.mul_comm]
theorem comes_mod {g : Nat → Int32} {T : Nat} {x y br : Int32} (hT : T < 10) : F_X9_comes g (nI T) x y br = some (upd (upd (upd (upd (upd g (5 * T) x) (5 * T + 1) y) (5 * T + 2) br) (5 * T + 3) 0) (5 * T + 4) 0) := by
  have e0 : 5 * nI T = nI (5 * T) := pk_mul 5 T
  have e1 : nI (5 * T) + 1 = nI (5 * T + 1) := nI_1 _
  have e2 : nI (5 * T) + 2 = nI (5 * T + 2) := nI_add _ 2
  have e3 : nI (5 * T) + 3 = nI (5 * T + 3) := nI_add _ 3
  have e4 : nI (5 * T) + 4 = nI (5 * T + 4) := nI_add _ 4
  have k : ∀ c, c < 5 → (nI (5 * T + c)).toNatClampNeg = 5 * T + c := fun c hc => nI_clamp (by omega)
  have k0 : (nI (5 * T)).toNatClampNeg = 5 * T := nI_clamp (by omega)
  have v : ∀ c, c < 5 → gvp (nI (5 * T + c)) 50 := fun c hc => gvp_nI (by omega) (by omega)
  unfold F_X9_comes
  simp only [e0, e1, e2, e3, e4, if_pos (show gvp (nI (5 * T)) 50 from gvp_nI (by omega) (by omega)), if_pos (v 1 (by omega)), if_pos (v 2 (by omega)), if_pos (v 3 (by omega)), if_pos (v 4 (by omega)), k0, k 1 (by omega), k 2 (by omega), k 3 (by omega), k 4 (by omega)]
def LR (L : Nat) (lf stX stY : Nat → Int32) : Prop := L ≤ 8 ∧ ∀ l, l < L → stX l = lf (2 * l) ∧ stY l = lf (2 * l + 1) ∧ pt (stX l) (stY l)
section Mut
variable {T P : Nat} {fo tu : Int32} {f pf g xs ys laws : Nat → Int32}
theorem SR.addTh (h : SR T P fo tu f pf g xs ys laws) (hT : T < 10) {x y br : Int32} (hp : pt x y) (hb : Rg br 0 5) : SR (T + 1) P fo tu (thR f T x y br) pf (upd (upd (upd (upd (upd g (5 * T) x) (5 * T + 1) y) (5 * T + 2) br) (5 * T + 3) 0) (5 * T + 4) 0) xs ys laws := by
  obtain ⟨h1, h2, h3, h4, h5⟩ := h
  refine ⟨by omega, h2, ?_, ?_, h5⟩
  · intro t ht
    simp only [thR_at]
    rcases Nat.lt_or_ge t T with h6 | h6
    · obtain ⟨q0, q1, q2, q3, q4⟩ := h3 t h6
      refine ⟨?_, ?_, ?_, ?_, ?_⟩
      · rw [if_neg (by omega), if_neg (by omega), if_neg (by omega), if_neg (by omega)]; exact q0
      · rw [if_neg (by omega), if_neg (by omega), if_neg (by omega), if_neg (by omega)]; exact q1
      · rw [if_neg (by omega), if_neg (by omega), if_neg (by omega), if_neg (by omega)]; exact q2
      · rw [if_neg (by omega), if_neg (by omega), if_neg (by omega), if_neg (by omega)]; exact q3
      · rw [if_neg (by omega), if_neg (by omega), if_neg (by omega), if_neg (by omega)]; exact q4
    · have e : t = T := by omega
      subst e
      refine ⟨?_, ?_, ?_, ?_, ?_⟩
      · rw [if_neg (by omega), if_neg (by omega), if_pos rfl]; exact hp.1
      · rw [if_neg (by omega), if_pos rfl]; exact hp.2
      · rw [if_pos rfl]; exact hb
      · rw [if_neg (by omega), if_neg (by omega), if_neg (by omega), if_pos (by omega)]; exact ⟨by decide, by decide⟩
      · rw [if_neg (by omega), if_neg (by omega), if_neg (by omega), if_pos (by omega)]; exact ⟨by decide, by decide⟩
  · intro i hi
    rw [thR_at]
    unfold upd
    by_cases c4 : i = 5 * T + 4
    · rw [if_pos c4, if_neg (by omega), if_neg (by omega), if_neg (by omega), if_pos (by omega)]
    · rw [if_neg c4]
      by_cases c3 : i = 5 * T + 3
      · rw [if_pos c3, if_neg (by omega), if_neg (by omega), if_neg (by omega), if_pos (by omega)]
      · rw [if_neg c3]
        by_cases c2 : i = 5 * T + 2
        · rw [if_pos c2, if_pos c2]
        · rw [if_neg c2, if_neg c2]
          by_cases c1 : i = 5 * T + 1
          · rw [if_pos c1, if_pos c1]
          · rw [if_neg c1, if_neg c1]
            by_cases c0 : i = 5 * T
            · rw [if_pos c0, if_pos c0]
            · rw [if_neg c0, if_neg c0, if_neg (by omega)]
              exact h4 i (by omega)
theorem eq_thing (h : SR T P fo tu f pf g xs ys laws) (x y br : Int32) : ∃ (r : Int32) (T' : Nat) (f' g' : Nat → Int32), F_X8_thing (nI T) f x y br = some (r, nI T', f') ∧ F_X9_thing (nI T) g x y br = some (r, nI T', g') ∧ SR T' P fo tu f' pf g' xs ys laws := by
  have hT := h.1
  unfold F_X8_thing F_X9_thing
  rw [isPoint_cls, isPoint_mod, fits_cls, in_mod32]
  simp only [Option.bind_some, gB_if]
  cases h1 : ptB x y
  · exact ⟨-1, T, f, g, rfl, rfl, h⟩
  · have ef : fitB 2 br = inb br.toInt 0 5 := rfl
    rw [ef]
    simp only [if_true]
    show ∃ (r : Int32) (T' : Nat) (f' g' : Nat → Int32), _ = _ ∧ (if inb br.toInt 0 5 = true then _ else _) = _ ∧ _
    cases h2 : inb br.toInt 0 5
    · exact ⟨-1, T, f, g, rfl, rfl, h⟩
    · rcases Nat.lt_or_ge T 10 with h3 | h3
      · refine ⟨nI T, T + 1, thR f T x y br, upd (upd (upd (upd (upd g (5 * T) x) (5 * T + 1) y) (5 * T + 2) br) (5 * T + 3) 0) (5 * T + 4) 0, ?_, ?_, h.addTh h3 (ptB_t.mp h1) (inb_t.mp h2)⟩
        · rw [if_pos rfl, addThing_cls h3]
          rfl
        · rw [if_pos rfl, if_neg (show ¬ nI T = 10 from fun e => by
            have := (nI_eq (b := 10) (by omega) (by omega)).mp e
            omega), comes_mod h3]
          simp only [Option.bind_some]
          rw [nI_1, nI_pred]
      · have e : T = 10 := by omega
        subst e
        refine ⟨-3, 10, f, g, ?_, ?_, h⟩
        · rw [if_pos rfl, addThing_full]
          rfl
        · rw [if_pos rfl, if_pos (by decide)]
theorem eq_make (h : SR T P fo tu f pf g xs ys laws) (th wh v : Int32) : ∃ (r : Int32) (f' g' : Nat → Int32), F_X8_make (nI T) f th wh v = some (r, f') ∧ F_X9_make (nI T) g th wh v = some (r, g') ∧ SR T P fo tu f' pf g' xs ys laws := by
  have hT := h.1
  -- the model, by cases on what
  have mk : ∀ (c : Nat) (k : Nat), c < 5 → k < T → wh = nI c → th = nI k → gvp ((5 * th) + wh) 50 ∧ ((5 * th) + wh).toNatClampNeg = 5 * k + c := by
    intro c k hc hk e1 e2
    rw [e1, e2, nI5']
    exact ⟨gvp_nI (by omega) (by omega), nI_clamp (by omega)⟩
  have model : F_X9_make (nI T) g th wh v = if inb th.toInt 0 (T - 1) = true ∧ fitB wh v = true then some (g ((5 * th) + wh).toNatClampNeg, upd g ((5 * th) + wh).toNatClampNeg v) else some (-100001, g) := by
    unfold F_X9_make fitB
    rw [in_mod32, in_mod32, in_mod32, in_mod32, isThing_mod (by omega)]
    simp only [Option.bind_some, gB_if]
    have l1 : inb v.toInt (0 : Int64).toInt (20 : Int64).toInt = inb v.toInt 0 20 := rfl
    have l2 : inb v.toInt (0 : Int64).toInt (5 : Int64).toInt = inb v.toInt 0 5 := rfl
    have l3 : inb v.toInt (-3 : Int64).toInt (3 : Int64).toInt = inb v.toInt (-3) 3 := rfl
    have l4 : inb wh.toInt (3 : Int64).toInt (4 : Int64).toInt = inb wh.toInt 3 4 := rfl
    rw [l1, l2, l3, l4]
    cases hth : inb th.toInt 0 (T - 1)
    · simp only [Bool.false_eq_true, false_and, if_false, ite_self]
    · obtain ⟨k, hk, ek⟩ := inb_nI hth
      simp only [if_true, true_and]
      by_cases w0 : wh = 0
      · obtain ⟨g1, -⟩ := mk 0 k (by omega) hk w0 ek
        rw [if_pos w0, if_pos (Or.inl w0)]
        simp only [if_pos g1]
      · rw [if_neg w0]
        by_cases w1 : wh = 1
        · obtain ⟨g1, -⟩ := mk 1 k (by omega) hk w1 ek
          rw [if_pos w1, if_pos (Or.inr w1)]
          simp only [if_pos g1]
        · rw [if_neg w1, if_neg (show ¬ (wh = 0 ∨ wh = 1) from fun q => q.elim w0 w1)]
          by_cases w2 : wh = 2
          · obtain ⟨g1, -⟩ := mk 2 k (by omega) hk w2 ek
            rw [if_pos w2, if_pos w2]
            simp only [if_pos g1]
          · rw [if_neg w2, if_neg w2]
            by_cases w3 : wh = 3 ∨ wh = 4
            · obtain ⟨c, hc, ec⟩ : ∃ c, c < 5 ∧ wh = nI c := by
                rcases w3 with e | e
                · exact ⟨3, by omega, e⟩
                · exact ⟨4, by omega, e⟩
              obtain ⟨g1, -⟩ := mk c k hc hk ec ek
              have : inb wh.toInt 3 4 = true := by
                rcases w3 with e | e <;> (rw [e]; decide)
              rw [this, if_pos w3]
              simp only [if_pos g1]
              cases inb v.toInt (-3) 3 <;> rfl
            · have : inb wh.toInt 3 4 = false := by
                apply Bool.eq_false_iff.mpr
                intro q
                have q := inb_t.mp q
                apply w3
                rcases (show wh.toInt = 3 ∨ wh.toInt = 4 by omega) with e | e
                · exact Or.inl ((gI_eq wh 3).mpr e)
                · exact Or.inr ((gI_eq wh 4).mpr e)
              rw [this, if_neg w3]
              rfl
  rw [model]
  unfold F_X8_make
  rw [has_cls (by omega), fits_cls]
  simp only [Option.bind_some, gB_if]
  cases hth : inb th.toInt 0 (T - 1)
  · exact ⟨-100001, f, g, rfl, by rw [if_neg (by simp)], h⟩
  · cases hfit : fitB wh v
    · exact ⟨-100001, f, g, rfl, by rw [if_neg (by simp)], h⟩
    · obtain ⟨k, hk, rfl⟩ := inb_nI hth
      obtain ⟨c, hc, rfl⟩ : ∃ c, c < 5 ∧ wh = nI c := by
        unfold fitB at hfit
        by_cases w0 : wh = 0 ∨ wh = 1
        · rcases w0 with e | e
          · exact ⟨0, by omega, e⟩
          · exact ⟨1, by omega, e⟩
        · rw [if_neg w0] at hfit
          by_cases w2 : wh = 2
          · exact ⟨2, by omega, w2⟩
          · rw [if_neg w2] at hfit
            by_cases w3 : wh = 3 ∨ wh = 4
            · rcases w3 with e | e
              · exact ⟨3, by omega, e⟩
              · exact ⟨4, by omega, e⟩
            · rw [if_neg w3] at hfit
              cases hfit
      obtain ⟨-, e1⟩ := mk c k hc hk rfl rfl
      rw [if_pos (show true = true ∧ true = true from ⟨rfl, rfl⟩), e1]
      simp only [if_true]
      rw [show F_X4_put 5 (nI T) 50 f (nI k) (nI c) v = _ from put_cls (w := 5) (S := T) (n := 50) (r := k) (c := c) (f := f) (v := v) hk hc (by omega) (by omega) (by omega) (by omega)]
      simp only [Option.bind_some]
      have ei : k * 5 + c = 5 * k + c := by omega
      have hg := h.2.2.2.1 (5 * k + c) (by omega)
      rw [ei]
      refine ⟨f (5 * k + c), upd f (5 * k + c) v, upd g (5 * k + c) v, rfl, by rw [hg], ?_⟩
      obtain ⟨h1, h2, h3, h4, h5⟩ := h
      refine ⟨h1, h2, ?_, ?_, h5⟩
      · intro t ht
        obtain ⟨q0, q1, q2, q3, q4⟩ := h3 t ht
        have other : ∀ c', c' < 5 → ¬ (t = k ∧ c' = c) → upd f (5 * k + c) v (5 * t + c') = f (5 * t + c') := fun c' hc' hne => upd_ne f v (by
          intro e
          apply hne
          omega)
        by_cases htk : t = k
        · subst htk
          have fv : ∀ c', c' < 5 → c' = c → upd f (5 * t + c) v (5 * t + c') = v := fun c' _ e => by rw [e, upd_self]
          have hv : (c = 0 ∨ c = 1 → Rg v 0 20) ∧ (c = 2 → Rg v 0 5) ∧ (c = 3 ∨ c = 4 → Rg v (-3) 3) := by
            unfold fitB at hfit
            refine ⟨?_, ?_, ?_⟩
            · intro e
              rw [if_pos (by rcases e with rfl | rfl <;> first | exact Or.inl rfl | exact Or.inr rfl)] at hfit
              exact inb_t.mp hfit
            · rintro rfl
              rw [if_neg (by decide), if_pos (show nI 2 = (2 : Int32) from rfl)] at hfit
              exact inb_t.mp hfit
            · intro e
              rw [if_neg (by rcases e with rfl | rfl <;> decide), if_neg (by rcases e with rfl | rfl <;> decide), if_pos (by rcases e with rfl | rfl <;> first | exact Or.inl rfl | exact Or.inr rfl)] at hfit
              exact inb_t.mp hfit
          refine ⟨?_, ?_, ?_, ?_, ?_⟩
          · by_cases e : c = 0
            · have := fv 0 (by omega) e.symm; rw [Nat.add_zero] at this; rw [this]; exact hv.1 (Or.inl e)
            · have := other 0 (by omega) (by omega); rw [Nat.add_zero] at this; rw [this]; exact q0
          · by_cases e : c = 1
            · rw [fv 1 (by omega) e.symm]; exact hv.1 (Or.inr e)
            · rw [other 1 (by omega) (by omega)]; exact q1
          · by_cases e : c = 2
            · rw [fv 2 (by omega) e.symm]; exact hv.2.1 e
            · rw [other 2 (by omega) (by omega)]; exact q2
          · by_cases e : c = 3
            · rw [fv 3 (by omega) e.symm]; exact hv.2.2 (Or.inl e)
            · rw [other 3 (by omega) (by omega)]; exact q3
          · by_cases e : c = 4
            · rw [fv 4 (by omega) e.symm]; exact hv.2.2 (Or.inr e)
            · rw [other 4 (by omega) (by omega)]; exact q4
        · have o0 := other 0 (by omega) (by omega)
          rw [Nat.add_zero] at o0
          rw [o0, other 1 (by omega) (by omega), other 2 (by omega) (by omega), other 3 (by omega) (by omega), other 4 (by omega) (by omega)]
          exact ⟨q0, q1, q2, q3, q4⟩
      · intro i hi
        by_cases e : i = 5 * k + c
        · rw [e, upd_self, upd_self]
        · rw [upd_ne _ _ e, upd_ne _ _ e]
          exact h4 i hi
end Mut
