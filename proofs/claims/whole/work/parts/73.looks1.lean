/-! CALLS THAT ONLY READ -/
def okR (P8 : Prop) (m8 : Int32) (P9 : Prop) (m9 : Int32) : Prop := P8 ∧ P9 ∧ m8 = m9
section LK
variable {V : gV} {nw np kp d lim st z t ms gd : Nat} {ln wt : Nat → Nat} {lt : Nat → Nat → Nat}
theorem run_of (h : rOn (fun c => V (1 + c)) (V 214) nw np lim ln lt z t ms gd) : cR V nw z gd ∧ mR V nw ln lt z gd ∧ (¬ V 24 0 = 0) ∧ (¬ MX9_runs V = 0) ∧ ∃ k, k < ln z ∧ gd.testBit (lt z k) = false := by
  obtain ⟨h0, h2, hz, ht, hms, hgd, ⟨a1, a2⟩, hs, ⟨b1, b2⟩, h4, ⟨c1, c2⟩, ⟨g1, g2⟩, m7, hex⟩ := h
  refine ⟨⟨h0, hz, hgd, a1, g1⟩, ⟨hz, hgd, a2, g2, m7⟩, fun q => ?_, runs_on rfl h2, hex⟩
  exact one_ne ((show V 24 0 = 1 from h0).symm.trans q)
theorem off_of (h : rOff (fun c => V (1 + c)) (V 214) np) : V 24 0 = 0 ∧ MX9_runs V = 0 := ⟨h.1, runs_off rfl h.2.1⟩
theorem fit_lt (hn : nw ≤ 16) : sFitting nw ln lt z gd < 65536 := Nat.lt_of_lt_of_le (sOr_lt _ nw) (Nat.le_trans (Nat.pow_le_pow_right (by omega) hn) (by decide))
theorem sAll_t {f : Nat → Bool} : ∀ {n}, (∀ i, i < n → f i = true) → sAll f n = true := by
  intro n h
  cases e : sAll f n with
  | true => rfl
  | false =>
    exfalso
    revert e h
    induction n with
    | zero => intro h e; exact Bool.noConfusion (show true = false from e)
    | succ n ih =>
      intro h e
      have e2 : (sAll f n && f n) = false := e
      rw [h n (by omega), Bool.and_true] at e2
      exact ih (fun i hi => h i (by omega)) e2
theorem fit_self (hz : z < nw) : (sFitting nw ln lt z gd).testBit z = true := by
  unfold sFitting
  rw [sOr_bit, decide_eq_true hz, Bool.true_and]
  unfold sFit
  rw [decide_eq_true rfl, Bool.true_and]
  refine sAll_t fun k hk => ?_
  by_cases h : gd.testBit (lt z k) = true
  · rw [if_pos h]; exact decide_eq_true rfl
  · rw [if_neg h]
    cases e : gd.testBit (lt z k) with
    | true => exact absurd e h
    | false => rfl
theorem sSum_le2 {f g : Nat → Nat} : ∀ n, (∀ i, i < n → f i ≤ g i) → sSum f n ≤ sSum g n
  | 0, _ => Nat.le_refl _
  | n + 1, h => Nat.add_le_add (sSum_le2 n fun i hi => h i (by omega)) (h n (by omega))
theorem sSum_at {f : Nat → Nat} {n i : Nat} (hi : i < n) : f i ≤ sSum f n := by
  have a : sSum f (i + 1) ≤ sSum f n := sSum_mono hi
  have b : sSum f (i + 1) = sSum f i + f i := rfl
  omega
theorem whv_le {set c : Nat} : sWhv nw ln wt lt set c ≤ sWof nw wt set := by
  unfold sWhv sWof
  refine sSum_le2 _ fun i hi => ?_
  by_cases h : set.testBit i = true
  · rw [if_pos h]
    split <;> omega
  · rw [if_neg h, if_neg (fun q => h q.1)]
    omega
theorem wof_pos {set w : Nat} (hw : w < nw) (h1 : 1 ≤ wt w) (hs : set.testBit w = true) : 0 < sWof nw wt set := by
  have a := sSum_at (f := fun w => if set.testBit w = true then wt w else 0) hw
  unfold sWof
  simp only [if_pos hs] at a
  omega
theorem sB_nat {tk : Nat → Bool} {val : Nat → Nat} : ∀ n, ∃ c, c ≤ n ∧ (c = 0 ∨ c < n) ∧ (sB tk val 0 n).1 = nI c
  | 0 => ⟨0, by omega, Or.inl rfl, rfl⟩
  | n + 1 => by
    obtain ⟨c, h1, h2, h3⟩ := sB_nat (tk := tk) (val := val) n
    rw [sB]
    by_cases hc : tk n = true ∧ (sB tk val 0 n).2 < val n + 1
    · rw [if_pos hc]; exact ⟨n, by omega, Or.inr (by omega), rfl⟩
    · rw [if_neg hc]; exact ⟨c, by omega, by omega, h3⟩
theorem ok_sharpest (h : gInv V) : okR (PX8_sharpest V) (MX8_sharpest V) (PX9_sharpest V) (MX9_sharpest V) := by
  obtain ⟨⟨nw, np, kp, d, lim, st, ln, wt, lt, g1, g2, g3, g4, g5⟩, -⟩ := h
  unfold PX8_sharpest MX8_sharpest PX9_sharpest MX9_sharpest
  rcases g5 with g5 | ⟨z, t, ms, gd, g5⟩
  · obtain ⟨a, b⟩ := off_of g5
    rw [if_pos a, if_pos b]
    exact ⟨fun q => absurd a q, fun q => absurd b q, rfl⟩
  · obtain ⟨r8, r9, a, b, k, hk, hb⟩ := run_of g5
    have c8 := cW_of g1
    have c9 := mW_of g1
    have hf := fit_lt (nw := nw) (ln := ln) (lt := lt) (z := z) (gd := gd) g1.1
    obtain ⟨f1, f2⟩ := cr_fitting c8 r8
    obtain ⟨f3, f4⟩ := mw_fitting c9 r9
    have hl := (cw_ltb c8 r8.2.1 hk)
    obtain ⟨s1, s2⟩ := cr_sharpest c8 r8 (set := sFitting nw ln lt z gd) (by omega)
    obtain ⟨s3, s4⟩ := mw_sharp c9 r9 (set := sFitting nw ln lt z gd) (by omega)
    rw [if_neg a, if_neg b, f2, f4, s2, s4]
    exact ⟨fun _ => ⟨f1, s1⟩, fun _ => ⟨f3, s3⟩, sC_one (fun c => sLrg_le g1.1) hl (by show (!gd.testBit (lt z k)) = true; rw [hb]; rfl)⟩
theorem ok_next (h : gInv V) : okR (PX8_next V) (MX8_next V) (PX9_next V) (MX9_next V) := by
  obtain ⟨⟨nw, np, kp, d, lim, st, ln, wt, lt, g1, g2, g3, g4, g5⟩, -⟩ := h
  unfold PX8_next MX8_next PX9_next MX9_next
  rcases g5 with g5 | ⟨z, t, ms, gd, g5⟩
  · obtain ⟨a, b⟩ := off_of g5
    rw [if_pos a, if_pos b, pc0]
    have c8 := cW_of g1
    have c9 := mW_of g1
    have e2 : V 2 0 = nI nw := g1.2.1
    have e0 : V 214 0 = nI nw := g1.2.2.1
    have hn := g1.1
    have e7 : V 1 7 = nI d := g4.2.2.1.2.1
    have e10 : V 214 10 = nI d := g4.2.2.1.2.2
    have hd := g4.2.2.1.1
    rw [e2, e0]
    rcases Nat.eq_zero_or_pos nw with rfl | hp
    · have z0 : nI 0 = 0 := rfl
      rw [if_pos z0, if_pos z0]
      exact ⟨fun _ q => absurd z0 q, fun _ q => absurd z0 q, rfl⟩
    · have z0 : ¬ nI nw = 0 := nI_ne0 hp (by omega)
      have e8 : MX8_numberBehind (V 1 7) V = nI (nxt d) := by rw [e7]; exact behindN hd
      have e9 : MX9_drawn V = nI (nxt d) := by
        unfold MX9_drawn
        rw [pc10, e10]
        exact behindN hd
      obtain ⟨w, w1, w2, w3, w4, w5⟩ := cw_drawnBy c8 hp (nxt_lt d)
      obtain ⟨w6, w7⟩ := mw_wordBy c9 (nxt_lt d) w1 w2 w3
      rw [if_neg z0, if_neg z0, e8, e9, w5, w7]
      exact ⟨fun _ _ => w4, fun _ _ => w6, rfl⟩
  · obtain ⟨r8, r9, a, b, -⟩ := run_of g5
    rw [if_neg a, if_neg b]
    exact ⟨fun q => absurd q a, fun q => absurd q b, rfl⟩
theorem ok_fits (h : gInv V) (a1 : Int32) : okR (PX8_fits a1 V) (MX8_fits a1 V) (PX9_fits a1 V) (MX9_fits a1 V) := by
  obtain ⟨⟨nw, np, kp, d, lim, st, ln, wt, lt, g1, g2, g3, g4, g5⟩, -⟩ := h
  unfold PX8_fits MX8_fits PX9_fits MX9_fits
  rcases in_nat (x := a1) (a := 0) (b := 4) (V := V) (by omega) (by omega) with ca | ⟨ca, c, -, hc, ea⟩
  · have c8 : MX8_isBetween a1 0 4 V = 0 := ca
    have c9 : MX9_in a1 0 4 V = 0 := ca
    rw [if_pos c8, if_pos c9]
    exact ⟨fun q => absurd c8 q, fun q => absurd c9 q, rfl⟩
  have c8 : ¬ MX8_isBetween a1 0 4 V = 0 := fun q => one_ne (ca.symm.trans q)
  have c9 : ¬ MX9_in a1 0 4 V = 0 := fun q => one_ne (ca.symm.trans q)
  rw [if_neg c8, if_neg c9]
  rcases g5 with g5 | ⟨z, t, ms, gd, g5⟩
  · obtain ⟨a, b⟩ := off_of g5
    rw [if_pos a, if_pos b]
    exact ⟨fun _ q => absurd a q, fun _ q => absurd b q, rfl⟩
  obtain ⟨r8, r9, a, b, k, hk, hb⟩ := run_of g5
  have d8 := cW_of g1
  have d9 := mW_of g1
  have hf := fit_lt (nw := nw) (ln := ln) (lt := lt) (z := z) (gd := gd) g1.1
  obtain ⟨f1, f2⟩ := cr_fitting d8 r8
  obtain ⟨f3, f4⟩ := mw_fitting d9 r9
  have hl := (cw_ltb d8 r8.2.1 hk)
  rw [if_neg a, if_neg b, f2, f4]
  obtain ⟨w1, w2⟩ := cw_weightOf d8 (set := sFitting nw ln lt z gd) (by omega)
  obtain ⟨w3, w4⟩ := mw_all d9 (set := sFitting nw ln lt z gd) (by omega)
  obtain ⟨o1, o2⟩ := mw_ones (V := V) (x := sFitting nw ln lt z gd) (F := 16) (by omega) (by omega)
  obtain ⟨l1, l2⟩ := cr_likeliest d8 r8 (set := sFitting nw ln lt z gd) (by omega)
  obtain ⟨l3, l4⟩ := mw_best d9 r9 (set := sFitting nw ln lt z gd) (by omega)
  have l5 := sB_one (tk := fun c => !gd.testBit c) (val := sWhv nw ln wt lt (sFitting nw ln lt z gd)) (b := -4) (b2 := 0) hl (by show (!gd.testBit (lt z k)) = true; rw [hb]; rfl)
  obtain ⟨m, -, m2, m3⟩ := sB_nat (tk := fun c => !gd.testBit c) (val := sWhv nw ln wt lt (sFitting nw ln lt z gd)) 26
  rw [l5, m3] at l4
  rw [m3] at l2
  obtain ⟨h1, h2⟩ := cw_having d8 (set := sFitting nw ln lt z gd) (c := m) (by omega) (by omega)
  obtain ⟨h3, h4⟩ := mw_having d9 (set := sFitting nw ln lt z gd) (c := m) (by omega) (by omega)
  rw [bitCount_ok hf, w2, l2, h2, o2, w4, l4, h4]
  exact ⟨fun _ _ => ⟨f1, fun _ _ => ⟨fun _ => w1, fun _ => ⟨fun _ => l1, fun _ => ⟨l1, h1⟩⟩⟩⟩, fun _ _ => ⟨f3, fun _ => ⟨fun _ => o1, fun _ => ⟨fun _ => w3, fun _ => ⟨fun _ => l3, fun _ => ⟨l3, h3⟩⟩⟩⟩⟩, rfl⟩
theorem ok_letterOf (h : gInv V) (a1 a2 : Int32) : okR (PX8_letterOf a1 a2 V) (MX8_letterOf a1 a2 V) (PX9_letterOf a1 a2 V) (MX9_letterOf a1 a2 V) := by
  obtain ⟨⟨nw, np, kp, d, lim, st, ln, wt, lt, g1, g2, g3, g4, g5⟩, -⟩ := h
  unfold PX8_letterOf MX8_letterOf PX9_letterOf MX9_letterOf
  rcases in_nat (x := a1) (a := 0) (b := 25) (V := V) (by omega) (by omega) with ca | ⟨ca, c, -, hc, ea⟩
  · have c8 : MX8_isLetter a1 V = 0 := ca
    have c9 : MX9_in a1 0 25 V = 0 := ca
    rw [if_pos c8, if_pos c9]
    exact ⟨fun q => absurd c8 q, fun q => absurd c9 q, rfl⟩
  have c8 : ¬ MX8_isLetter a1 V = 0 := fun q => one_ne (ca.symm.trans q)
  have c9 : ¬ MX9_in a1 0 25 V = 0 := fun q => one_ne (ca.symm.trans q)
  rw [if_neg c8, if_neg c9]
  rcases in_nat (x := a2) (a := 0) (b := 2) (V := V) (by omega) (by omega) with cb | ⟨cb, w, -, hw, eb⟩
  · have b8 : MX8_isBetween a2 0 2 V = 0 := cb
    have b9 : MX9_in a2 0 2 V = 0 := cb
    rw [if_pos b8, if_pos b9]
    exact ⟨fun _ q => absurd b8 q, fun _ q => absurd b9 q, rfl⟩
  have b8 : ¬ MX8_isBetween a2 0 2 V = 0 := fun q => one_ne (cb.symm.trans q)
  have b9 : ¬ MX9_in a2 0 2 V = 0 := fun q => one_ne (cb.symm.trans q)
  rw [if_neg b8, if_neg b9]
  rcases g5 with g5 | ⟨z, t, ms, gd, g5⟩
  · obtain ⟨a, b⟩ := off_of g5
    have c3 : MX3_takes a1 V = 0 := by unfold MX3_takes; rw [if_pos a]
    rw [if_pos c3, if_pos b]
    exact ⟨fun _ _ q => absurd c3 q, fun _ _ q => absurd b q, rfl⟩
  obtain ⟨r8, r9, a, b, k, hk, hb⟩ := run_of g5
  subst ea
  have hgd : gd < 2 ^ 26 := r8.2.2.1
  have et := cr_takes r8 (show c < 26 by omega)
  have e6 : V 214 6 = nI gd := r9.2.2.2.1
  rw [if_neg b, pc6, e6]
  by_cases hbt : gd.testBit c = true
  · have c3 : MX3_takes (nI c) V = 0 := by rw [et, if_pos hbt]
    have c4 : ((nI gd >>> (nI c &&& 31)) &&& 1) = 1 := (pu_shr (by omega) (by omega)).mpr hbt
    rw [if_pos c3, if_pos c4]
    exact ⟨fun _ _ q => absurd c3 q, fun _ _ _ q => absurd c4 q, rfl⟩
  have c3 : ¬ MX3_takes (nI c) V = 0 := by rw [et, if_neg hbt]; exact one_ne
  have c4 : ¬ ((nI gd >>> (nI c &&& 31)) &&& 1) = 1 := fun q => hbt ((pu_shr (by omega) (by omega)).mp q)
  rw [if_neg c3, if_neg c4]
  have d8 := cW_of g1
  have d9 := mW_of g1
  have hf := fit_lt (nw := nw) (ln := ln) (lt := lt) (z := z) (gd := gd) g1.1
  obtain ⟨f1, f2⟩ := cr_fitting d8 r8
  obtain ⟨f3, f4⟩ := mw_fitting d9 r9
  obtain ⟨w1, w2⟩ := cw_weightOf d8 (set := sFitting nw ln lt z gd) (by omega)
  obtain ⟨w3, w4⟩ := mw_all d9 (set := sFitting nw ln lt z gd) (by omega)
  obtain ⟨h1, h2⟩ := cw_having d8 (set := sFitting nw ln lt z gd) (c := c) (by omega) (by omega)
  obtain ⟨h3, h4⟩ := mw_having d9 (set := sFitting nw ln lt z gd) (c := c) (by omega) (by omega)
  obtain ⟨l1, l2⟩ := cw_largest d8 (set := sFitting nw ln lt z gd) (c := c) (by omega) (by omega)
  obtain ⟨l3, l4⟩ := mw_greatest d9 (set := sFitting nw ln lt z gd) (c := c) (by omega) (by omega)
  have q1 := whv_le (nw := nw) (ln := ln) (wt := wt) (lt := lt) (set := sFitting nw ln lt z gd) (c := c)
  have q2 := wof_pos (wt := wt) r8.2.1 (d8.2.2 z r8.2.1).2.2.1 (fit_self (ln := ln) (lt := lt) (gd := gd) r8.2.1)
  have q3 : sWof nw wt (sFitting nw ln lt z gd) ≤ 1584 := sWof_lt d8 _ (Nat.le_refl _)
  obtain ⟨⟨p1, p2, p3⟩, p4⟩ := fp_chance (V := V) (V1 := V) q2 q1 q3
  rw [f2, f4, h2, h4, w2, w4, l2, l4]
  refine ⟨fun _ _ _ => ⟨f1, fun _ => h1, fun _ => ⟨fun _ => ⟨h1, w1, p1, p2⟩, fun _ => l1⟩⟩, fun _ _ _ _ => ⟨f3, h3, w3, p3, fun _ => h3, fun _ _ => l3⟩, ?_⟩
  by_cases e0 : a2 = 0
  · rw [if_pos e0, if_pos e0]
  · rw [if_neg e0, if_neg e0]
    by_cases e1 : a2 = 1
    · rw [if_pos e1, if_pos e1]; exact p4
    · rw [if_neg e1, if_neg e1]
end LK
