/-! image, restore. -/
theorem SR.congr {T P : Nat} {fo tu : Int32} {f pf g xs ys laws : Nat → Int32} (h : SR T P fo tu f pf g xs ys laws) {f' pf' g' xs' ys' laws' : Nat → Int32} (e1 : ∀ i, i < 50 → f' i = f i) (e2 : ∀ i, i < 12 → pf' i = pf i) (e3 : ∀ i, i < 50 → g' i = g i) (e4 : ∀ i, i < 6 → xs' i = xs i) (e5 : ∀ i, i < 6 → ys' i = ys i) (e6 : ∀ i, i < 2 → laws' i = laws i) : SR T P fo tu f' pf' g' xs' ys' laws' := by
  obtain ⟨q1, q2, q3, q4, q5, q6, q7, q8⟩ := h
  refine ⟨q1, q2, fun t ht => ?_, fun i hi => ?_, fun k hk => ?_, ?_, ?_, q8⟩
  · rw [e1 _ (by omega), e1 _ (by omega), e1 _ (by omega), e1 _ (by omega), e1 _ (by omega)]
    exact q3 t ht
  · rw [e1 _ (by omega), e3 _ (by omega)]
    exact q4 i hi
  · rw [e4 _ (by omega), e5 _ (by omega), e2 _ (by omega), e2 _ (by omega)]
    exact q5 k hk
  · rw [e6 _ (by omega)]
    exact q6
  · rw [e6 _ (by omega)]
    exact q7
theorem TR.congr {P N : Nat} {a : Nat → Nat} {az : Int32} {af arms talk : Nat → Int32} (h : TR P N a az af arms talk) {af' arms' talk' : Nat → Int32} (e1 : ∀ i, i < 72 → af' i = af i) (e2 : ∀ i, i < 6 → arms' i = arms i) (e3 : ∀ i, i < 54 → talk' i = talk i) : TR P N a az af' arms' talk' := by
  obtain ⟨q1, q2, q3, q4⟩ := h
  refine ⟨q1, q2, q3, fun s hs => ?_⟩
  obtain ⟨r1, r2, r3, r4⟩ := q4 s hs
  refine ⟨r1, r2, by rw [e2 _ (by omega)]; exact r3, fun j hj => ?_⟩
  have hm := off_mono a (m := s + 1) (n := N) (by omega)
  have e : off a (s + 1) = off a s + a s := rfl
  rw [e1 _ (by omega), e1 _ (by omega), e1 _ (by omega), e1 _ (by omega), e3 _ (by omega), e3 _ (by omega), e3 _ (by omega)]
  exact r4 j hj
theorem LR.congr {L : Nat} {lf stX stY : Nat → Int32} (h : LR L lf stX stY) {lf' stX' stY' : Nat → Int32} (e1 : ∀ i, i < 16 → lf' i = lf i) (e2 : ∀ i, i < 8 → stX' i = stX i) (e3 : ∀ i, i < 8 → stY' i = stY i) : LR L lf' stX' stY' := by
  obtain ⟨q1, q2⟩ := h
  refine ⟨q1, fun l hl => ?_⟩
  rw [e1 _ (by omega), e1 _ (by omega), e2 _ (by omega), e3 _ (by omega)]
  exact q2 l hl
theorem OR.congr {O : Nat} {oz : Int32} {o tolds : Nat → Int32} (h : OR O oz o tolds) {o' tolds' : Nat → Int32} (e1 : ∀ i, i < 12 → o' i = o i) (e2 : ∀ i, i < 12 → tolds' i = tolds i) : OR O oz o' tolds' := by
  obtain ⟨q1, q2, q3⟩ := h
  refine ⟨q1, q2, fun k hk => ?_⟩
  rw [e1 _ (by omega), e1 _ (by omega), e1 _ (by omega), e2 _ (by omega), e2 _ (by omega), e2 _ (by omega)]
  exact q3 k hk
theorem cp_at {α : Type} (f g : Nat → α) {n i : Nat} (h : i < n) : va_cpy f g 0 0 n i = f i := by
  unfold va_cpy
  rw [if_pos (by omega), Nat.sub_zero, Nat.zero_add]
theorem takeRows_cls {sz sz2 : Int32} {n : Nat} {f f2 : Nat → Int32} (hn : n < 1000) : F_X4_takeRows sz n f sz2 n f2 = some (sz2, va_cpy f2 f 0 0 n) := by
  have c : (Int32.ofNat n).toNatClampNeg = n := nI_clamp (n := n) (by omega)
  have hg : gcp 0 0 (Int32.ofNat n) n n := ⟨by decide, by decide, nI_pos (n := n) (by omega), by rw [c]; exact Nat.le_of_eq (Nat.zero_add n), by rw [c]; exact Nat.le_of_eq (Nat.zero_add n)⟩
  unfold F_X4_takeRows
  rw [if_pos rfl, if_pos hg, c]
def layd (img fA : Nat → Int32) (a n : Nat) : Nat → Int32 := fun x => if a ≤ x ∧ x < a + n then fA (x - a) else img x
theorem layd_step (img fA : Nat → Int32) (a c : Nat) : upd (layd img fA a c) (a + c) (fA c) = layd img fA a (c + 1) := by
  funext x
  by_cases e : x = a + c
  · rw [e, upd_self]
    unfold layd
    rw [if_pos (by omega), Nat.add_sub_cancel_left]
  · rw [upd_ne _ _ e]
    unfold layd
    by_cases h : a ≤ x ∧ x < a + c
    · rw [if_pos h, if_pos (by omega)]
    · rw [if_neg h, if_neg (by omega)]
theorem layd_0 (img fA : Nat → Int32) (a : Nat) : layd img fA a 0 = img := by
  funext x
  exact if_neg (by omega)
theorem lay_loop {img fA : Nat → Int32} {a n : Nat} (h : a + n ≤ 170) (kk : Int32 → (Nat → Int32) → Option (Int32 × (Nat → Int32))) : ∀ (d c fu : Nat), c + d = n → d < fu → FL_X9_lay_2 n fA (nI a) kk fu (nI c) (layd img fA a c) = kk (nI n) (layd img fA a n)
  | 0, c, fu + 1, hc, _ => by
    have e : c = n := by omega
    subst e
    unfold FL_X9_lay_2
    rw [if_pos (show Int32.ofNat c ≤ nI c from nI_le (Nat.le_refl _) (by omega))]
  | d + 1, c, fu + 1, hc, hfu => by
    have ih := lay_loop (img := img) (fA := fA) h kk d (c + 1) fu (by omega) (by omega)
    have c1 : (nI c).toNatClampNeg = c := nI_clamp (by omega)
    have c2 : (nI (a + c)).toNatClampNeg = a + c := nI_clamp (by omega)
    unfold FL_X9_lay_2
    simp only [if_neg (show ¬ Int32.ofNat n ≤ nI c from nI_ge (b := n) (by omega) (by omega)), nI_add, if_pos (show gvp (nI c) n from gvp_nI (by omega) (by omega)), if_pos (show gvp (nI (a + c)) 170 from gvp_nI (by omega) (by omega)), c1, c2]
    rw [layd_step, nI_1]
    exact ih
theorem lay_mod {img fA : Nat → Int32} {a n : Nat} (h : a + n ≤ 170) : F_X9_lay img n fA (nI a) = some (nI (a + n), layd img fA a n) := by
  have e := lay_loop (img := img) (fA := fA) h (fun _ a17_2 => some ((nI a + Int32.ofNat n), a17_2)) n 0 gN0 (by omega) (by have := gN0_big; omega)
  rw [layd_0, show nI a + Int32.ofNat n = nI (a + n) from nI_add a n] at e
  unfold F_X9_lay
  rw [show nI a + Int32.ofNat n = nI (a + n) from nI_add a n]
  exact e
def givn (img fA : Nat → Int32) (a n : Nat) : Nat → Int32 := fun x => if x < n then img (a + x) else fA x
theorem givn_step (img fA : Nat → Int32) (a c : Nat) : upd (givn img fA a c) c (img (a + c)) = givn img fA a (c + 1) := by
  funext x
  by_cases e : x = c
  · rw [e, upd_self]
    unfold givn
    rw [if_pos (by omega)]
  · rw [upd_ne _ _ e]
    unfold givn
    by_cases h : x < c
    · rw [if_pos h, if_pos (by omega)]
    · rw [if_neg h, if_neg (by omega)]
theorem givn_0 (img fA : Nat → Int32) (a : Nat) : givn img fA a 0 = fA := by
  funext x
  exact if_neg (by omega)
theorem gives_loop {img fA : Nat → Int32} {a n : Nat} (h : a + n ≤ 170) (kk : Int32 → (Nat → Int32) → Option (Int32 × (Nat → Int32))) : ∀ (d c fu : Nat), c + d = n → d < fu → FL_X9_gives_2 img n (nI a) kk fu (nI c) (givn img fA a c) = kk (nI n) (givn img fA a n)
  | 0, c, fu + 1, hc, _ => by
    have e : c = n := by omega
    subst e
    unfold FL_X9_gives_2
    rw [if_pos (show Int32.ofNat c ≤ nI c from nI_le (Nat.le_refl _) (by omega))]
  | d + 1, c, fu + 1, hc, hfu => by
    have ih := gives_loop (img := img) (fA := fA) h kk d (c + 1) fu (by omega) (by omega)
    have c1 : (nI c).toNatClampNeg = c := nI_clamp (by omega)
    have c2 : (nI (a + c)).toNatClampNeg = a + c := nI_clamp (by omega)
    unfold FL_X9_gives_2
    simp only [if_neg (show ¬ Int32.ofNat n ≤ nI c from nI_ge (b := n) (by omega) (by omega)), nI_add, if_pos (show gvp (nI c) n from gvp_nI (by omega) (by omega)), if_pos (show gvp (nI (a + c)) 170 from gvp_nI (by omega) (by omega)), c1, c2]
    rw [givn_step, nI_1]
    exact ih
theorem gives_mod {img fA : Nat → Int32} {a n : Nat} (h : a + n ≤ 170) : F_X9_gives img n fA (nI a) = some (nI (a + n), givn img fA a n) := by
  have e := gives_loop (img := img) (fA := fA) h (fun _ a40_2 => some ((nI a + Int32.ofNat n), a40_2)) n 0 gN0 (by omega) (by have := gN0_big; omega)
  rw [givn_0, show nI a + Int32.ofNat n = nI (a + n) from nI_add a n] at e
  unfold F_X9_gives
  rw [show nI a + Int32.ofNat n = nI (a + n) from nI_add a n]
  exact e
/-- what an image keeps, in class and model -/
def GR (T P N L O : Nat) (a : Nat → Nat) (fo tu az oz : Int32) (f pf af lf o g xs ys laws arms talk stX stY tolds : Nat → Int32) : Prop := SR T P fo tu f pf g xs ys laws ∧ TR P N a az af arms talk ∧ LR L lf stX stY ∧ OR O oz o tolds
def IR (ik im szK foK tuK : Int32) (fK : Nat → Int32) (pzK : Int32) (pfK : Nat → Int32) (azK : Int32) (afK : Nat → Int32) (lzK : Int32) (lfK : Nat → Int32) (ozK : Int32) (oK : Nat → Int32) (img : Nat → Int32) : Prop := ik = im ∧ (ik = 0 ∨ (ik = 1 ∧ ∃ (T P N L O : Nat) (a : Nat → Nat), szK = nI T ∧ pzK = nI P ∧ lzK = nI L ∧ img 152 = nI T ∧ img 153 = nI P ∧ img 154 = nI N ∧ img 155 = nI L ∧ img 156 = nI O ∧ GR T P N L O a foK tuK azK ozK fK pfK afK lfK oK img (fun i => img (50 + i)) (fun i => img (56 + i)) (fun i => img (62 + i)) (fun i => img (64 + i)) (fun i => img (70 + i)) (fun i => img (124 + i)) (fun i => img (132 + i)) (fun i => img (140 + i))))
section Img
variable {T P N L O : Nat} {a : Nat → Nat} {fo tu az oz : Int32} {f pf af lf o g xs ys laws arms talk stX stY tolds : Nat → Int32}
theorem eq_image (h : GR T P N L O a fo tu az oz f pf af lf o g xs ys laws arms talk stX stY tolds) (szK : Int32) (fK : Nat → Int32) (pzK : Int32) (pfK : Nat → Int32) (azK : Int32) (afK : Nat → Int32) (lzK : Int32) (lfK : Nat → Int32) (ozK : Int32) (oK : Nat → Int32) (img : Nat → Int32) : ∃ (szK' foK' tuK' : Int32) (fK' : Nat → Int32) (pzK' : Int32) (pfK' : Nat → Int32) (azK' : Int32) (afK' : Nat → Int32) (lzK' : Int32) (lfK' : Nat → Int32) (ozK' : Int32) (oK' : Nat → Int32) (img' : Nat → Int32), F_X8_image (nI T) fo tu f (nI P) pf az af (nI L) lf oz o szK fK pzK pfK azK afK lzK lfK ozK oK = some (1, 1, szK', foK', tuK', fK', pzK', pfK', azK', afK', lzK', lfK', ozK', oK') ∧ F_X9_image (nI T) (nI P) (nI N) (nI L) (nI O) g xs ys laws arms talk stX stY tolds img = some (1, 1, img') ∧ IR 1 1 szK' foK' tuK' fK' pzK' pfK' azK' afK' lzK' lfK' ozK' oK' img' := by
  unfold F_X8_image F_X5_takeAll F_X2_takeLaws
  rw [takeRows_cls (by omega), takeRows_cls (by omega), takeRows_cls (by omega), takeRows_cls (by omega), takeRows_cls (by omega)]
  simp only [Option.bind_some]
  refine ⟨_, _, _, _, _, _, _, _, _, _, _, _, upd (upd (upd (upd (upd (layd (layd (layd (layd (layd (layd (layd (layd (layd img g 0 50) xs 50 6) ys 56 6) laws 62 2) arms 64 6) talk 70 54) stX 124 8) stY 132 8) tolds 140 12) 152 (nI T)) 153 (nI P)) 154 (nI N)) 155 (nI L)) 156 (nI O), rfl, ?_, rfl, Or.inr ⟨rfl, ?_⟩⟩
  · unfold F_X9_image
    rw [show F_X9_lay img 50 g 0 = _ from lay_mod (a := 0) (by omega)]
    simp only [Option.bind_some]
    rw [lay_mod (by omega)]
    simp only [Option.bind_some]
    rw [lay_mod (by omega)]
    simp only [Option.bind_some]
    rw [lay_mod (by omega)]
    simp only [Option.bind_some]
    rw [lay_mod (by omega)]
    simp only [Option.bind_some]
    rw [lay_mod (by omega)]
    simp only [Option.bind_some]
    rw [lay_mod (by omega)]
    simp only [Option.bind_some]
    rw [lay_mod (by omega)]
    simp only [Option.bind_some]
    rw [lay_mod (by omega)]
    simp only [Option.bind_some]
    have c0 : (nI (0 + 50 + 6 + 6 + 2 + 6 + 54 + 8 + 8 + 12)).toNatClampNeg = 152 := nI_clamp (n := 152) (by omega)
    have c1 : (nI (0 + 50 + 6 + 6 + 2 + 6 + 54 + 8 + 8 + 12) + 1).toNatClampNeg = 153 := nI_clamp (n := 153) (by omega)
    have c2 : (nI (0 + 50 + 6 + 6 + 2 + 6 + 54 + 8 + 8 + 12) + 2).toNatClampNeg = 154 := nI_clamp (n := 154) (by omega)
    have c3 : (nI (0 + 50 + 6 + 6 + 2 + 6 + 54 + 8 + 8 + 12) + 3).toNatClampNeg = 155 := nI_clamp (n := 155) (by omega)
    have c4 : (nI (0 + 50 + 6 + 6 + 2 + 6 + 54 + 8 + 8 + 12) + 4).toNatClampNeg = 156 := nI_clamp (n := 156) (by omega)
    have g0 : gvp (nI (0 + 50 + 6 + 6 + 2 + 6 + 54 + 8 + 8 + 12)) 170 := gvp_nI (k := 152) (by omega) (by omega)
    have g1 : gvp (nI (0 + 50 + 6 + 6 + 2 + 6 + 54 + 8 + 8 + 12) + 1) 170 := gvp_nI (k := 153) (by omega) (by omega)
    have g2 : gvp (nI (0 + 50 + 6 + 6 + 2 + 6 + 54 + 8 + 8 + 12) + 2) 170 := gvp_nI (k := 154) (by omega) (by omega)
    have g3 : gvp (nI (0 + 50 + 6 + 6 + 2 + 6 + 54 + 8 + 8 + 12) + 3) 170 := gvp_nI (k := 155) (by omega) (by omega)
    have g4 : gvp (nI (0 + 50 + 6 + 6 + 2 + 6 + 54 + 8 + 8 + 12) + 4) 170 := gvp_nI (k := 156) (by omega) (by omega)
    rw [if_pos g0, if_pos g1, if_pos g2, if_pos g3, if_pos g4, c0, c1, c2, c3, c4]
  · obtain ⟨h1, h2, h3, h4⟩ := h
    refine ⟨T, P, N, L, O, a, rfl, rfl, rfl, ?_, ?_, ?_, ?_, ?_, ?_, ?_, ?_, ?_⟩
    · rw [upd_ne _ _ (by omega), upd_ne _ _ (by omega), upd_ne _ _ (by omega), upd_ne _ _ (by omega), upd_self]
    · rw [upd_ne _ _ (by omega), upd_ne _ _ (by omega), upd_ne _ _ (by omega), upd_self]
    · rw [upd_ne _ _ (by omega), upd_ne _ _ (by omega), upd_self]
    · rw [upd_ne _ _ (by omega), upd_self]
    · rw [upd_self]
    · refine h1.congr (fun i hi => cp_at _ _ hi) (fun i hi => cp_at _ _ hi) (fun i hi => ?_) (fun i hi => ?_) (fun i hi => ?_) (fun i hi => ?_)
      all_goals
        simp only [upd, layd]
        repeat rw [if_neg (by omega)]
        rw [if_pos (by omega)]
        first
        | rw [Nat.add_sub_cancel_left]
        | rw [Nat.sub_zero]
    · refine h2.congr (fun i hi => cp_at _ _ hi) (fun i hi => ?_) (fun i hi => ?_)
      all_goals
        simp only [upd, layd]
        repeat rw [if_neg (by omega)]
        rw [if_pos (by omega)]
        first
        | rw [Nat.add_sub_cancel_left]
        | rw [Nat.sub_zero]
    · refine h3.congr (fun i hi => cp_at _ _ hi) (fun i hi => ?_) (fun i hi => ?_)
      all_goals
        simp only [upd, layd]
        repeat rw [if_neg (by omega)]
        rw [if_pos (by omega)]
        first
        | rw [Nat.add_sub_cancel_left]
        | rw [Nat.sub_zero]
    · refine h4.congr (fun i hi => cp_at _ _ hi) (fun i hi => ?_)
      simp only [upd, layd]
      repeat rw [if_neg (by omega)]
      rw [if_pos (by omega)]
      rw [Nat.add_sub_cancel_left]
theorem eq_restore (h : GR T P N L O a fo tu az oz f pf af lf o g xs ys laws arms talk stX stY tolds) {ik im szK foK tuK : Int32} {fK : Nat → Int32} {pzK : Int32} {pfK : Nat → Int32} {azK : Int32} {afK : Nat → Int32} {lzK : Int32} {lfK : Nat → Int32} {ozK : Int32} {oK : Nat → Int32} {img : Nat → Int32} (hi : IR ik im szK foK tuK fK pzK pfK azK afK lzK lfK ozK oK img) : ∃ (r : Int32) (T' P' N' L' O' : Nat) (a' : Nat → Nat) (fo' tu' az' oz' : Int32) (f' pf' af' lf' o' g' xs' ys' laws' arms' talk' stX' stY' tolds' : Nat → Int32), F_X8_restore ik (nI T) fo tu f (nI P) pf az af (nI L) lf oz o szK foK tuK fK pzK pfK azK afK lzK lfK ozK oK = some (r, nI T', fo', tu', f', nI P', pf', az', af', nI L', lf', oz', o') ∧ F_X9_restore (nI T) (nI P) (nI N) (nI L) (nI O) im g xs ys laws arms talk stX stY tolds img = some (r, nI L', nI O', nI T', nI P', nI N', g', xs', ys', laws', arms', talk', stX', stY', tolds') ∧ GR T' P' N' L' O' a' fo' tu' az' oz' f' pf' af' lf' o' g' xs' ys' laws' arms' talk' stX' stY' tolds' := by
  obtain ⟨rfl, rfl | ⟨rfl, T', P', N', L', O', a', rfl, rfl, rfl, m1, m2, m3, m4, m5, hK⟩⟩ := hi
  · exact ⟨-4, T, P, N, L, O, a, fo, tu, az, oz, f, pf, af, lf, o, g, xs, ys, laws, arms, talk, stX, stY, tolds, rfl, rfl, h⟩
  · unfold F_X8_restore F_X9_restore F_X5_takeAll F_X2_takeLaws
    rw [if_neg (by decide), if_neg (by decide), takeRows_cls (by omega), takeRows_cls (by omega), takeRows_cls (by omega), takeRows_cls (by omega), takeRows_cls (by omega)]
    simp only [Option.bind_some]
    refine ⟨1, T', P', N', L', O', a', foK, tuK, azK, ozK, _, _, _, _, _, givn img g 0 50, givn img xs 50 6, givn img ys 56 6, givn img laws 62 2, givn img arms 64 6, givn img talk 70 54, givn img stX 124 8, givn img stY 132 8, givn img tolds 140 12, rfl, ?_, ?_⟩
    · rw [show F_X9_gives img 50 g 0 = _ from gives_mod (a := 0) (by omega)]
      simp only [Option.bind_some]
      rw [gives_mod (by omega)]
      simp only [Option.bind_some]
      rw [gives_mod (by omega)]
      simp only [Option.bind_some]
      rw [gives_mod (by omega)]
      simp only [Option.bind_some]
      rw [gives_mod (by omega)]
      simp only [Option.bind_some]
      rw [gives_mod (by omega)]
      simp only [Option.bind_some]
      rw [gives_mod (by omega)]
      simp only [Option.bind_some]
      rw [gives_mod (by omega)]
      simp only [Option.bind_some]
      rw [gives_mod (by omega)]
      simp only [Option.bind_some]
      have c0 : (nI (0 + 50 + 6 + 6 + 2 + 6 + 54 + 8 + 8 + 12)).toNatClampNeg = 152 := nI_clamp (n := 152) (by omega)
      have c1 : (nI (0 + 50 + 6 + 6 + 2 + 6 + 54 + 8 + 8 + 12) + 1).toNatClampNeg = 153 := nI_clamp (n := 153) (by omega)
      have c2 : (nI (0 + 50 + 6 + 6 + 2 + 6 + 54 + 8 + 8 + 12) + 2).toNatClampNeg = 154 := nI_clamp (n := 154) (by omega)
      have c3 : (nI (0 + 50 + 6 + 6 + 2 + 6 + 54 + 8 + 8 + 12) + 3).toNatClampNeg = 155 := nI_clamp (n := 155) (by omega)
      have c4 : (nI (0 + 50 + 6 + 6 + 2 + 6 + 54 + 8 + 8 + 12) + 4).toNatClampNeg = 156 := nI_clamp (n := 156) (by omega)
      have g0 : gvp (nI (0 + 50 + 6 + 6 + 2 + 6 + 54 + 8 + 8 + 12)) 170 := gvp_nI (k := 152) (by omega) (by omega)
      have g1 : gvp (nI (0 + 50 + 6 + 6 + 2 + 6 + 54 + 8 + 8 + 12) + 1) 170 := gvp_nI (k := 153) (by omega) (by omega)
      have g2 : gvp (nI (0 + 50 + 6 + 6 + 2 + 6 + 54 + 8 + 8 + 12) + 2) 170 := gvp_nI (k := 154) (by omega) (by omega)
      have g3 : gvp (nI (0 + 50 + 6 + 6 + 2 + 6 + 54 + 8 + 8 + 12) + 3) 170 := gvp_nI (k := 155) (by omega) (by omega)
      have g4 : gvp (nI (0 + 50 + 6 + 6 + 2 + 6 + 54 + 8 + 8 + 12) + 4) 170 := gvp_nI (k := 156) (by omega) (by omega)
      rw [if_pos g0, if_pos g1, if_pos g2, if_pos g3, if_pos g4, c0, c1, c2, c3, c4, m1, m2, m3, m4, m5]
    · obtain ⟨h1, h2, h3, h4⟩ := hK
      refine ⟨?_, ?_, ?_, ?_⟩
      · refine h1.congr (fun i hi => cp_at _ _ hi) (fun i hi => cp_at _ _ hi) (fun i hi => ?_) (fun i hi => ?_) (fun i hi => ?_) (fun i hi => ?_)
        all_goals
          unfold givn
          rw [if_pos hi]
          try rw [Nat.zero_add]
      · refine h2.congr (fun i hi => cp_at _ _ hi) (fun i hi => ?_) (fun i hi => ?_)
        all_goals
          unfold givn
          rw [if_pos hi]
      · refine h3.congr (fun i hi => cp_at _ _ hi) (fun i hi => ?_) (fun i hi => ?_)
        all_goals
          unfold givn
          rw [if_pos hi]
      · refine h4.congr (fun i hi => cp_at _ _ hi) (fun i hi => ?_)
        unfold givn
        rw [if_pos hi]
end Img
