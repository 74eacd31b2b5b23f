section LK3
variable {V : gV} {nw np kp d lim st z t ms gd : Nat} {ln wt : Nat → Nat} {lt : Nat → Nat → Nat}
theorem ok_open (h : gInv V) (a1 : Int32) : okR True (MX8_open a1 V) (PX9_open a1 V) (MX9_open a1 V) := by
  obtain ⟨⟨nw, np, kp, d, lim, st, ln, wt, lt, g1, g2, g3, g4, g5⟩, -⟩ := h
  unfold MX8_open PX9_open MX9_open
  by_cases c : 0 ≤ a1
  · have c2 : ¬ a1 < 0 := by rw [Int32.lt_iff_toInt_lt]; rw [Int32.le_iff_toInt_le] at c; exact Int.not_lt.mpr c
    obtain ⟨k, hk, ea⟩ := nI_of c2
    rw [if_pos c, if_pos c]
    rcases g5 with g5 | ⟨z, t, ms, gd, g5⟩
    · obtain ⟨a, b⟩ := off_of g5
      rw [if_pos a, if_pos b]
      exact ⟨trivial, fun _ q => absurd b q, rfl⟩
    obtain ⟨r8, r9, a, b, -⟩ := run_of g5
    have d8 := cW_of g1
    have d9 := mW_of g1
    have hz := r8.2.1
    have hgd : gd < 2 ^ 26 := r8.2.2.1
    obtain ⟨n1, n2⟩ := mw_len d9 hz
    have m7 : V 214 7 = nI (sOr (fun k => gd.testBit (lt z k)) (ln z)) := r9.2.2.2.2
    have hL := (cw_ln d8 hz).2
    rw [if_neg a, if_neg b, r8.2.2.2.1, r8.2.2.2.2, cw_len d8 hz, pc13, pc7, r9.2.2.1, n2, m7]
    subst ea
    by_cases hkl : k < ln z
    · have e : nI k < nI (ln z) := nI_lt hkl (by omega)
      have hb := cw_ltb d8 hz hkl
      obtain ⟨t1, t2⟩ := mw_lt d9 hz hkl
      have so := sOr_bit (fun k => gd.testBit (lt z k)) (ln z) k
      rw [decide_eq_true hkl, Bool.true_and] at so
      rw [if_pos e, if_pos e, cw_lt d8 hz hkl, pu_hold (by omega) (by omega), t2]
      have hs := Nat.lt_of_lt_of_le (sOr_lt (fun k => gd.testBit (lt z k)) (ln z)) (Nat.pow_le_pow_right (n := 2) (by omega) hL)
      have sh := pu_shr (n := sOr (fun k => gd.testBit (lt z k)) (ln z)) (k := k) (by omega) (by omega)
      refine ⟨trivial, fun _ _ => ⟨n1, fun _ _ => t1⟩, ?_⟩
      by_cases hg : gd.testBit (lt z k) = true
      · rw [if_pos hg, if_neg one_ne, if_pos (sh.mpr (so.trans hg))]
      · rw [if_neg hg, if_pos rfl, if_neg (fun q => hg (so.symm.trans (sh.mp q)))]
    · have e : ¬ nI k < nI (ln z) := nI_nlt (by omega) hk
      rw [if_neg e, if_neg e]
      exact ⟨trivial, fun _ _ => ⟨n1, fun q => absurd q e⟩, rfl⟩
  · rw [if_neg c, if_neg c]
    exact ⟨trivial, fun q => absurd q c, rfl⟩
theorem ok_round (h : gInv V) (a1 a2 : Int32) : okR True (MX8_round a1 a2 V) (PX9_round a1 a2 V) (MX9_round a1 a2 V) := by
  obtain ⟨⟨nw, np, kp, d, lim, st, ln, wt, lt, g1, g2, g3, g4, g5⟩, -⟩ := h
  unfold MX8_round PX9_round MX9_round
  by_cases c : a1 < 0
  · rw [if_pos c, if_pos c]
    exact ⟨trivial, fun q => absurd c q, rfl⟩
  obtain ⟨k, hk, ea⟩ := nI_of c
  rw [if_neg c, if_neg c]
  rcases in_nat (x := a2) (a := 0) (b := 3) (V := V) (by omega) (by omega) with cb | ⟨cb, w, -, hw, eb⟩
  · have b8 : MX8_isBetween a2 0 3 V = 0 := cb
    have b9 : MX9_in a2 0 3 V = 0 := cb
    rw [if_pos b8, if_pos b9]
    exact ⟨trivial, fun _ q => absurd b9 q, rfl⟩
  have b8 : ¬ MX8_isBetween a2 0 3 V = 0 := fun q => one_ne (cb.symm.trans q)
  have b9 : ¬ MX9_in a2 0 3 V = 0 := fun q => one_ne (cb.symm.trans q)
  obtain ⟨h1, h2, h3, h4⟩ := g3
  have e25 : V 25 0 = nI kp := h2
  subst ea
  rw [if_neg b8, if_neg b9, e25, pc15, h3]
  by_cases hkk : k < kp
  · have e : nI k < nI kp := nI_lt hkk (by omega)
    have e2 : ¬ nI kp ≤ nI k := nI_ge hkk (by omega)
    have ei : (222 : Int32) + 4 * nI k + a2 = nI (222 + 4 * k + w) := by rw [show (222 : Int32) = nI 222 from rfl, show (4 : Int32) = nI 4 from rfl, pu_mul, nI_add, eb, nI_add]
    obtain ⟨y0, y1, y2, y3⟩ := h4 k hkk
    have x0 : V 27 k = V 214 (222 + 4 * k) := y0
    have x1 : V 29 k = V 214 (222 + 4 * k + 1) := y1
    have x2 : V 31 k = V 214 (222 + 4 * k + 2) := y2
    have x3 : V 33 k = V 214 (222 + 4 * k + 3) := y3
    rw [if_pos e, if_neg e2, ei, nI_clamp (by omega), pu_at (n := 6) kd27 (by omega), pu_at (n := 6) kd29 (by omega), pu_at (n := 6) kd31 (by omega), pu_at (n := 6) kd33 (by omega)]
    refine ⟨trivial, fun _ _ _ => pu_in (by omega) (by omega), ?_⟩
    rcases (show w = 0 ∨ w = 1 ∨ w = 2 ∨ w = 3 by omega) with rfl | rfl | rfl | rfl
    · have e0 : a2 = 0 := eb
      rw [if_pos e0]; exact x0
    · have e0 : a2 = 1 := eb
      rw [e0, if_neg one_ne, if_pos rfl]; exact x1
    · have e0 : a2 = 2 := eb
      rw [e0, if_neg (by decide), if_neg (by decide), if_pos rfl]; exact x2
    · have e0 : a2 = 3 := eb
      rw [e0, if_neg (by decide), if_neg (by decide), if_neg (by decide)]; exact x3
  · have e : ¬ nI k < nI kp := nI_nlt (by omega) hk
    have e2 : nI kp ≤ nI k := nI_le (by omega) hk
    rw [if_neg e, if_pos e2]
    exact ⟨trivial, fun _ _ q => absurd e2 q, rfl⟩
theorem nIn {x : Int32} {a b : Int32} (h : MX9_in x a b V = 0) (c : Int32) (p : ¬ c < a) (q : ¬ b < c) : ¬ x = c := fun e => by
  subst e
  have : MX9_in x a b V = 1 := by unfold MX9_in; rw [if_neg p, if_neg q]
  exact one_ne (this.symm.trans h)
theorem ok_playerOf (h : gInv V) (a1 a2 : Int32) : okR True (MX8_playerOf a1 a2 V) (PX9_playerOf a1 a2 V) (MX9_playerOf a1 a2 V) := by
  obtain ⟨⟨nw, np, kp, d, lim, st, ln, wt, lt, g1, g2, g3, g4, g5⟩, -⟩ := h
  unfold MX8_playerOf PX9_playerOf MX9_playerOf
  have h8 := hasP (x := a1) (V := V) (np := np) (show V 11 0 = nI np from g2.2.1)
  have h9 := isP (x := a1) (V := V) (np := np) (show V 214 1 = nI np from g2.2.2.1)
  have hn := g2.1
  rcases has_nat (x := a1) (n := np) (by omega) with e | ⟨e, p, hp, ea⟩
  · rw [if_pos (h8.trans e), if_pos (h9.trans e)]
    exact ⟨trivial, fun q => absurd (h9.trans e) q, rfl⟩
  rw [if_neg (fun q => one_ne ((h8.trans e).symm.trans q)), if_neg (fun q => one_ne ((h9.trans e).symm.trans q))]
  subst ea
  obtain ⟨y0, y1, y2, y3, y4, y5⟩ := g2.2.2.2.1 p hp
  have x0 : V 13 p = V 214 (192 + 6 * p) := y0
  have x1 : V 15 p = V 214 (192 + 6 * p + 1) := y1
  have x2 : V 17 p = V 214 (192 + 6 * p + 2) := y2
  have x3 : V 19 p = V 214 (192 + 6 * p + 3) := y3
  have x4 : V 21 p = V 214 (192 + 6 * p + 4) := y4
  have a4 : MX9_at (nI p) (4 : Int32) V = nI (192 + 6 * p + 4) := at_nat (by omega) (w := 4) (by omega)
  unfold MX0_hasHint
  rw [pu_at (n := 5) kd13 (by omega), pu_at (n := 5) kd15 (by omega), pu_at (n := 5) kd17 (by omega), pu_at (n := 5) kd19 (by omega), pu_at (n := 5) kd21 (by omega), pu_at (n := 5) kd23 (by omega), a4, nI_clamp (by omega)]
  unfold PX9_playerOf_44 BX9_playerOf_44
  rcases in_nat (x := a2) (a := 0) (b := 5) (V := V) (by omega) (by omega) with cb | ⟨cb, w, -, hw, eb⟩
  · have b9 : MX9_in a2 0 5 V = 0 := cb
    rw [if_pos b9, if_neg (nIn b9 0 (by decide) (by decide)), if_neg (nIn b9 1 (by decide) (by decide)), if_neg (nIn b9 2 (by decide) (by decide)), if_neg (nIn b9 3 (by decide) (by decide)), if_neg (nIn b9 4 (by decide) (by decide)), if_neg (nIn b9 5 (by decide) (by decide))]
    exact ⟨trivial, fun _ q => absurd b9 q, rfl⟩
  have b9 : ¬ MX9_in a2 0 5 V = 0 := fun q => one_ne (cb.symm.trans q)
  rw [if_neg b9]
  have aw : MX9_at (nI p) a2 V = nI (192 + 6 * p + w) := by rw [eb]; exact at_nat (by omega) (by omega)
  have i4 : vp_in (nI (192 + 6 * p + 4)) 246 := pu_in (by omega) (by omega)
  have iw : vp_in (nI (192 + 6 * p + w)) 246 := pu_in (by omega) (by omega)
  rw [aw, nI_clamp (show 192 + 6 * p + w < 2 ^ 31 by omega)]
  refine ⟨trivial, fun _ _ => ⟨fun _ => iw, fun _ => ⟨i4, fun _ => iw⟩⟩, ?_⟩
  rcases (show w = 0 ∨ w = 1 ∨ w = 2 ∨ w = 3 ∨ w = 4 ∨ w = 5 by omega) with rfl | rfl | rfl | rfl | rfl | rfl
  · have e0 : a2 = 0 := eb
    rw [e0, if_pos rfl, if_pos (by decide)]; exact x0
  · have e0 : a2 = 1 := eb
    rw [e0, if_neg (by decide), if_pos rfl, if_pos (by decide)]; exact x1
  · have e0 : a2 = 2 := eb
    rw [e0, if_neg (by decide), if_neg (by decide), if_pos rfl, if_pos (by decide)]; exact x2
  · have e0 : a2 = 3 := eb
    rw [e0, if_neg (by decide), if_neg (by decide), if_neg (by decide), if_pos rfl, if_pos (by decide)]; exact x3
  · have e0 : a2 = 4 := eb
    rw [e0, if_neg (by decide), if_neg (by decide), if_neg (by decide), if_neg (by decide), if_pos rfl, if_neg (show ¬ (4 : Int32) ≤ 3 by decide), x4]
    by_cases c : V 214 (192 + 6 * p + 4) = 26
    · rw [if_pos c, if_pos c]; exact if_pos rfl
    · rw [if_neg c, if_neg c]; exact if_neg one_ne
  · have e0 : a2 = 5 := eb
    rw [e0, if_neg (by decide), if_neg (by decide), if_neg (by decide), if_neg (by decide), if_neg (by decide), if_pos rfl, if_neg (show ¬ (5 : Int32) ≤ 3 by decide), x4]
    by_cases c : V 214 (192 + 6 * p + 4) = 26
    · rw [if_pos c, if_pos c]; exact if_pos rfl
    · rw [if_neg c, if_neg c, if_neg one_ne]
      rcases y5 with y5 | ⟨y5, -⟩
      · exact absurd y5 c
      · exact y5
theorem ok_wordOf (h : gInv V) (a1 a2 : Int32) : okR (PX8_wordOf a1 a2 V) (MX8_wordOf a1 a2 V) (PX9_wordOf a1 a2 V) (MX9_wordOf a1 a2 V) := by
  obtain ⟨⟨nw, np, kp, d, lim, st, ln, wt, lt, g1, g2, g3, g4, g5⟩, -⟩ := h
  unfold PX8_wordOf MX8_wordOf PX9_wordOf MX9_wordOf
  have d8 := cW_of g1
  have d9 := mW_of g1
  have h8 := hasW (x := a1) (V := V) (nw := nw) (show V 2 0 = nI nw from g1.2.1)
  have h9 := isW (x := a1) (V := V) (nw := nw) (show V 214 0 = nI nw from g1.2.2.1)
  have hn := g1.1
  rcases has_nat (x := a1) (n := nw) (by omega) with e | ⟨e, w, hw, ea⟩
  · rw [if_pos (h8.trans e), if_pos (h9.trans e)]
    exact ⟨fun q => absurd (h8.trans e) q, fun q => absurd (h9.trans e) q, rfl⟩
  rw [if_neg (fun q => one_ne ((h8.trans e).symm.trans q)), if_neg (fun q => one_ne ((h9.trans e).symm.trans q))]
  subst ea
  have hL := cw_ln d8 hw
  obtain ⟨n1, n2⟩ := mw_len d9 hw
  obtain ⟨n3, n4⟩ := mw_wt d9 hw
  obtain ⟨n5, n6⟩ := mw_of (V := V) (w := w) (j := 2) (by omega) (by omega)
  have n5' : PX9_of (nI w) (2 : Int32) V := n5
  have n6' : MX9_of (nI w) (2 : Int32) V = V 214 (16 + 11 * w + 2) := n6
  obtain ⟨l1, l2⟩ := cw_letterSet d8 hw
  obtain ⟨l3, l4⟩ := mw_letters d9 hw
  have x7 : V 8 w = V 214 (16 + 11 * w + 2) := (g1.2.2.2 w hw).2.2.2.2.2.1
  have c7 : MX4_at 7 (nI w) V = V 8 w := pu_at (n := 16) kd8 (by omega)
  have eF : (PX8_fitOf (nI w) V ∧ (¬ MX9_runs V = 0 → PX9_fitsOne (nI w) V)) ∧ MX8_fitOf (nI w) V = (if MX9_runs V = 0 then (-4 : Int32) else if MX9_fitsOne (nI w) V = 0 then 0 else 1) := by
    unfold PX8_fitOf MX8_fitOf
    rcases g5 with g5 | ⟨z, t, ms, gd, g5⟩
    · obtain ⟨a, b⟩ := off_of g5
      rw [if_pos a, if_pos b]
      exact ⟨⟨fun q => absurd a q, fun q => absurd b q⟩, rfl⟩
    · obtain ⟨r8, r9, a, b, -⟩ := run_of g5
      have hf := fit_lt (nw := nw) (ln := ln) (lt := lt) (z := z) (gd := gd) hn
      obtain ⟨f1, f2⟩ := cr_fitting d8 r8
      obtain ⟨f3, f4⟩ := mw_fits d9 r9 hw
      have tb : (sFitting nw ln lt z gd).testBit w = sFit ln lt z gd w := by
        unfold sFitting
        rw [sOr_bit, decide_eq_true hw, Bool.true_and]
      rw [if_neg a, if_neg b, f2, f4, pu_hold (by omega) (by omega), tb]
      exact ⟨⟨fun _ => f1, fun _ => f3⟩, rfl⟩
  obtain ⟨⟨F1, F2⟩, F3⟩ := eF
  rw [cw_len d8 hw, cw_wt d8 hw, l2, c7, F3, n2]
  unfold PX9_wordOf_37 BX9_wordOf_37 PX9_wordOf_72 BX9_wordOf_72
  have e9 : (9 : Int32) + nI (ln w) = nI (9 + ln w) := nI_add 9 (ln w)
  rw [e9]
  rcases in_nat (x := a2) (a := 0) (b := 4) (V := V) (by omega) (by omega) with cb | ⟨cb, j, -, hj, eb⟩
  · have b9 : MX9_in a2 0 4 V = 0 := cb
    have k0 := nIn b9 0 (by decide) (by decide)
    have k1 := nIn b9 1 (by decide) (by decide)
    have k2 := nIn b9 2 (by decide) (by decide)
    have k3 := nIn b9 3 (by decide) (by decide)
    have k4 := nIn b9 4 (by decide) (by decide)
    rw [if_pos b9, if_neg k0, if_neg k1, if_neg k2, if_neg k3, if_neg k4]
    unfold MX8_letterAtCode
    have e8 : (10 : Int32) + MX4_at 3 (nI w) V - 1 = nI (9 + ln w) := by
      rw [cw_len d8 hw, show (10 : Int32) = nI 10 from rfl, nI_add, show (1 : Int32) = nI 1 from rfl, pu_sub (by omega)]
      exact congrArg nI (by omega)
    rw [e8]
    rcases in_nat (x := a2) (a := 10) (b := 9 + ln w) (V := V) (by omega) (by omega) with cc | ⟨cc, j, hj1, hj, eb⟩
    · have b8 : MX8_isBetween a2 10 (nI (9 + ln w)) V = 0 := cc
      have b9' : MX9_in a2 10 (nI (9 + ln w)) V = 0 := cc
      rw [if_pos b8, if_pos b9']
      exact ⟨fun _ _ _ => ⟨fun q => absurd q k2, fun _ _ q => absurd q k4⟩, fun _ => ⟨fun _ => ⟨n1, fun q => absurd b9' q⟩, fun q => absurd b9 q⟩, rfl⟩
    · have b8 : ¬ MX8_isBetween a2 10 (nI (9 + ln w)) V = 0 := fun q => one_ne (cc.symm.trans q)
      have b9' : ¬ MX9_in a2 10 (nI (9 + ln w)) V = 0 := fun q => one_ne (cc.symm.trans q)
      have ej : a2 - 10 = nI (j - 10) := by rw [eb, show (10 : Int32) = nI 10 from rfl, pu_sub (by omega)]
      obtain ⟨t1, t2⟩ := mw_lt d9 hw (k := j - 10) (by omega)
      rw [if_neg b8, if_neg b9', if_neg k0, if_neg k1, if_neg k2, if_neg k3, if_neg k4, ej, cw_lt d8 hw (k := j - 10) (by omega), t2]
      exact ⟨fun _ _ _ => ⟨fun q => absurd q k2, fun _ _ q => absurd q k4⟩, fun _ => ⟨fun _ => ⟨n1, fun _ => ⟨fun q => absurd q k0, fun _ => ⟨fun q => absurd q k1, fun _ => ⟨fun q => absurd q k2, fun _ => ⟨fun q => absurd q k3, fun _ => ⟨fun q => absurd q k4, fun _ => t1⟩⟩⟩⟩⟩⟩, fun q => absurd b9 q⟩, rfl⟩
  have b9 : ¬ MX9_in a2 0 4 V = 0 := fun q => one_ne (cb.symm.trans q)
  rw [if_neg b9]
  rcases (show j = 0 ∨ j = 1 ∨ j = 2 ∨ j = 3 ∨ j = 4 by omega) with rfl | rfl | rfl | rfl | rfl
  · have e0 : a2 = 0 := eb
    rw [e0, if_pos rfl, if_pos rfl]
    unfold okR
    simp (decide := true) [n1, n2, n3, n4, n5', n6', l1, l3, l4, F1, x7]
  · have e0 : a2 = 1 := eb
    rw [e0, if_neg (by decide), if_pos rfl, if_neg (by decide), if_pos rfl]
    unfold okR
    simp (decide := true) [n1, n2, n3, n4, n5', n6', l1, l3, l4, F1, x7]
  · have e0 : a2 = 2 := eb
    rw [e0, if_neg (by decide), if_neg (by decide), if_pos rfl, if_neg (by decide), if_neg (by decide), if_pos rfl]
    unfold okR
    simp (decide := true) [n1, n2, n3, n4, n5', n6', l1, l3, l4, F1, x7]
  · have e0 : a2 = 3 := eb
    rw [e0, if_neg (by decide), if_neg (by decide), if_neg (by decide), if_pos rfl, if_neg (by decide), if_neg (by decide), if_neg (by decide), if_pos rfl]
    unfold okR
    simp (decide := true) [n1, n2, n3, n4, n5', n6', l1, l3, l4, F1, x7]
  · have e0 : a2 = 4 := eb
    rw [e0, if_neg (show ¬ (4 : Int32) = 0 by decide), if_neg (show ¬ (4 : Int32) = 1 by decide), if_neg (show ¬ (4 : Int32) = 2 by decide), if_neg (show ¬ (4 : Int32) = 3 by decide), if_pos (show (4 : Int32) = 4 from rfl), if_neg (show ¬ (4 : Int32) = 0 by decide), if_neg (show ¬ (4 : Int32) = 1 by decide), if_neg (show ¬ (4 : Int32) = 2 by decide), if_neg (show ¬ (4 : Int32) = 3 by decide), if_pos (show (4 : Int32) = 4 from rfl)]
    unfold okR
    simp (decide := true) [n1, n2, n3, n4, n5', n6', l1, l3, l4, F1, x7]
    exact fun _ => ⟨fun _ _ => F2, fun _ => F2⟩
end LK3
