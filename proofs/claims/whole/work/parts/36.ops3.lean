theorem runs_off {V : gV} {m : Nat → Int32} (e : V 214 = m) (h : m 2 = 0) : MX9_runs V = 0 := by
  unfold MX9_runs
  rw [pc2, e, h, if_neg (by decide)]
theorem runs_on {V : gV} {m : Nat → Int32} (e : V 214 = m) (h : m 2 = 1) : ¬ MX9_runs V = 0 := by
  unfold MX9_runs
  rw [pc2, e, h, if_pos rfl]
  decide
theorem one_ne : ¬ (1 : Int32) = 0 := by decide
theorem hasW {V : gV} {x : Int32} {nw : Nat} (h : V 2 0 = nI nw) : MX7_has x V = if x < 0 then 0 else if nI nw ≤ x then 0 else 1 := by unfold MX7_has; rw [h]
theorem isW {V : gV} {x : Int32} {nw : Nat} (h : V 214 0 = nI nw) : MX9_isWord x V = if x < 0 then 0 else if nI nw ≤ x then 0 else 1 := by unfold MX9_isWord; rw [pc0, h]
theorem hasP {V : gV} {x : Int32} {np : Nat} (h : V 11 0 = nI np) : MX0_has x V = if x < 0 then 0 else if nI np ≤ x then 0 else 1 := by unfold MX0_has; rw [h]
theorem isP {V : gV} {x : Int32} {np : Nat} (h : V 214 1 = nI np) : MX9_isPlayer x V = if x < 0 then 0 else if nI np ≤ x then 0 else 1 := by unfold MX9_isPlayer; rw [pc1, h]
theorem ok_word {V : gV} (h : gInv V) (a b : Int32) : ∃ j, j < 4 ∧ okI (PX8_word j (69 + 33 * j) a b V) (MX8_word j (69 + 33 * j) a b V) (PX9_word a b) (MX9_word a b) := by
  have h' := h
  obtain ⟨hr, hs, ⟨hn, fr, hh⟩, tl, ht⟩ := h
  refine ⟨fr, hh.2.1, ?_⟩
  have hr' := hr
  obtain ⟨nw, np, kp, d, lim, st, ln, wt, lt, g1, g2, g3, g4, g5⟩ := hr'
  have g1' := g1
  obtain ⟨w1, w2, w3, w4⟩ := g1'
  have w2 : V 2 0 = nI nw := w2
  have w3 : V 214 0 = nI nw := w3
  unfold PX8_word MX8_word
  rcases has_nat (x := a) (n := nw) (by omega) with ca | ⟨ca, w, hw, ea⟩
  · have c8 : MX7_has a V = 0 := (hasW w2).trans ca
    have c9 : MX9_isWord a V = 0 := (isW w3).trans ca
    refine err_ok h' (r := -1) (by rw [if_pos c8]) (fun q => absurd c8 q) ?_ ?_
    · unfold PX9_word; exact fun q => absurd c9 q
    · unfold MX9_word; rw [if_pos c9]
  have c8 : ¬ MX7_has a V = 0 := fun q => one_ne (ca.symm.trans ((hasW w2).symm.trans q))
  have c9 : ∀ V1 : gV, V1 214 = V 214 → ¬ MX9_isWord a V1 = 0 := fun V1 e q => one_ne (ca.symm.trans ((isW (by rw [e, w3])).symm.trans q))
  rcases in_nat (x := b) (a := 1) (b := 99) (V := V) (by omega) (by omega) with cb | ⟨cb, t2, ht1, ht2, eb⟩
  · have cb8 : MX8_isBetween b 1 99 V = 0 := cb
    have cb9 : MX9_in b 1 99 V = 0 := cb
    refine err_ok h' (r := -1) (by rw [if_neg c8, if_pos cb8]) (fun _ q => absurd cb8 q) ?_ ?_
    · unfold PX9_word; exact fun _ q => absurd cb9 q
    · unfold MX9_word; rw [if_neg (c9 V rfl), if_pos cb9]
  have cb8 : ¬ MX8_isBetween b 1 99 V = 0 := fun q => one_ne (cb.symm.trans q)
  have cb9 : ∀ V1 : gV, ¬ MX9_in b 1 99 V1 = 0 := fun _ => cb8
  rcases g5 with g5 | ⟨z, t, ms, gd, g5⟩
  · have hrun : V 24 0 = 0 := g5.1
    obtain ⟨rP, r1, r2, r3, r4, r5⟩ := rec_ok hr hh
    have hw16 : w < 16 := by omega
    obtain ⟨V1, eV⟩ : ∃ v, v = gu (MX1_record fr (69 + 33 * fr) V) 6 w b := ⟨_, rfl⟩
    have f1 : ∀ x, 34 ≤ x → V1 x = MX1_record fr (69 + 33 * fr) V x := fun x hx => by rw [eV]; exact gu_row (by omega)
    obtain ⟨k0, k1, k2⟩ := chg_ok (V1 := V1) hr hh (fun x hx => f1 x (by omega))
    obtain ⟨k3, k4⟩ := mw_of (V := MX9_changes V1) (w := w) (j := 1) hw16 (by omega)
    obtain ⟨a0, a1, a2, a3, a4, a5, a6⟩ := w4 w hw
    refine mut_ok hr hs hh ht V1 (upd (V 214) (16 + 11 * w + 1) b) (r := nI (wt w)) (fun x hx _ _ _ _ => f1 x hx) (by rw [eV, gu_row (by omega), r1 0 (by omega)]) ?_ ?_ ?_ ?_ ?_
    · unfold BX8_word_53
      rw [if_neg c8, if_neg cb8, if_pos hrun, ea, pu_at (n := 16) kd6 hw16, pu_put (n := 16) kd6 hw16, eV]
      show (MX1_record fr (69 + 33 * fr) V 6 w, _) = _
      rw [r1 6 (by omega)]
      exact congrArg (fun z => (z, _)) a3
    · exact fun _ _ _ => rP
    · unfold PX9_word PX9_word_34
      rw [ea]
      exact fun _ _ _ => ⟨k0, by
        have := pu_in (show 16 + 11 * w + 1 < 246 by omega) (show 246 < 2 ^ 31 by omega)
        refine ⟨k3, ?_⟩
        rw [show (16 : Int32) = nI 16 from rfl, show (11 : Int32) = nI 11 from rfl, show (1 : Int32) = nI 1 from rfl, pu_mul, nI_add, nI_add]
        exact this⟩
    · unfold MX9_word BX9_word_34
      rw [if_neg (c9 V1 k2), if_neg (cb9 V1), if_pos (runs_off k2 g5.2.1), ea]
      have e1 : MX9_of (nI w) 1 (MX9_changes V1) = nI (wt w) := by
        refine k4.trans ?_
        rw [k1]
        exact a4
      rw [e1, show (16 : Int32) = nI 16 from rfl, show (11 : Int32) = nI 11 from rfl, show (1 : Int32) = nI 1 from rfl, pu_mul, nI_add, nI_add, nI_clamp (by omega), gu_of k1]
    · have hc : ∀ q j, q < 33 → (q ≠ 5 ∨ j ≠ w) → V1 (1 + q) j = V (1 + q) j := fun q j hq hj => by
        rw [eV, gu_eq, if_neg (by omega), r1 (1 + q) (by omega)]
      have hm : ∀ j, j ≠ 16 + 11 * w + 1 → upd (V 214) (16 + 11 * w + 1) b j = V 214 j := fun j hj => upd_ne hj
      refine ⟨nw, np, kp, d, lim, st, ln, fun v => if v = w then t2 else wt v, lt, ⟨w1, (hc 1 0 (by omega) (by omega)).trans w2, (hm 0 (by omega)).trans w3, fun v hv => ?_⟩, g2.congr (fun q j s => hc q j (by omega) (by omega)) (fun j s => hm j (by omega)), g3.congr (fun q j s => hc q j (by omega) (by omega)) (fun j s => hm j (by omega)), g4.congr (fun j s => hc 0 j (by omega) (by omega)) (fun j s => hm j (by omega)), Or.inl (g5.congr g2.1 (hc 23 0 (by omega) (by omega)) ⟨hm 2 (by omega), fun p hp => hm _ (by have := g2.1; omega)⟩)⟩
      obtain ⟨b0, b1, b2, b3, b4, b5, b6⟩ := w4 v hv
      show (_ ∧ _ ∧ 1 ≤ (if v = w then t2 else wt v) ∧ (if v = w then t2 else wt v) ≤ 99) ∧ _ ∧ _ ∧ V1 (1 + 5) v = nI (if v = w then t2 else wt v) ∧ upd (V 214) (16 + 11 * w + 1) b (16 + 11 * v + 1) = nI (if v = w then t2 else wt v) ∧ _
      refine ⟨⟨b0.1, b0.2.1, ?_, ?_⟩, (hc 3 v (by omega) (by omega)).trans b1, (hm _ (by omega)).trans b2, ?_, ?_, (hc 7 v (by omega) (by omega)).trans (b5.trans (hm _ (by omega)).symm), fun k hk => ?_⟩
      · split <;> omega
      · split <;> omega
      · by_cases e : v = w
        · subst e
          rw [if_pos rfl, eV, ← eb]
          exact gu_at
        · rw [if_neg e]
          exact (hc 5 v (by omega) (by omega)).trans b3
      · by_cases e : v = w
        · subst e
          rw [if_pos rfl, ← eb]
          exact upd_at
        · rw [if_neg e]
          exact (hm _ (by omega)).trans b4
      · obtain ⟨q1, q2, q3⟩ := b6 k hk
        exact ⟨q1, (hc 9 _ (by omega) (by omega)).trans q2, (hm _ (by omega)).trans q3⟩
  · have hrun : ¬ V 24 0 = 0 := by rw [show V 24 0 = 1 from g5.1]; exact one_ne
    have hrun9 := runs_on (V := V) rfl g5.2.1
    refine err_ok h' (r := -2) (by rw [if_neg c8, if_neg cb8, if_neg hrun]) (fun _ _ q => absurd q hrun) ?_ ?_
    · unfold PX9_word; exact fun _ _ q => absurd q hrun9
    · unfold MX9_word; rw [if_neg (c9 V rfl), if_neg (cb9 V), if_neg hrun9]
theorem ok_seat {V : gV} (h : gInv V) (a : Int32) : ∃ j, j < 4 ∧ okI (PX8_seat j (69 + 33 * j) a V) (MX8_seat j (69 + 33 * j) a V) (PX9_seat a) (MX9_seat a) := by
  have h' := h
  obtain ⟨hr, hs, ⟨hn, fr, hh⟩, tl, ht⟩ := h
  refine ⟨fr, hh.2.1, ?_⟩
  have hr' := hr
  obtain ⟨nw, np, kp, d, lim, st, ln, wt, lt, g1, g2, g3, g4, g5⟩ := hr'
  have g2' := g2
  obtain ⟨p1, p2, p3, p4, p5⟩ := g2'
  have p2 : V 11 0 = nI np := p2
  have p3 : V 214 1 = nI np := p3
  unfold PX8_seat MX8_seat
  rcases in_nat (x := a) (a := 0) (b := 999) (V := V) (by omega) (by omega) with cb | ⟨cb, t2, ht1, ht2, eb⟩
  · have cb8 : MX8_isBetween a 0 999 V = 0 := cb
    have cb9 : MX9_in a 0 999 V = 0 := cb
    refine err_ok h' (r := -1) (by rw [if_pos cb8]) (fun q => absurd cb8 q) ?_ ?_
    · unfold PX9_seat; exact fun q => absurd cb9 q
    · unfold MX9_seat; rw [if_pos cb9]
  have cb8 : ¬ MX8_isBetween a 0 999 V = 0 := fun q => one_ne (cb.symm.trans q)
  have cb9 : ∀ V1 : gV, ¬ MX9_in a 0 999 V1 = 0 := fun _ => cb8
  rcases g5 with g5 | ⟨z, t, ms, gd, g5⟩
  · have hrun : V 24 0 = 0 := g5.1
    by_cases hp : np < 5
    · have e5 : V 11 0 < 5 := by rw [p2]; exact nI_lt (b := 5) hp (by omega)
      have e5' : ¬ nI np = 5 := fun q => by have := (nI_eq (b := 5) (by omega) (by omega)).mp q; omega
      obtain ⟨rP, r1, r2, r3, r4, r5⟩ := rec_ok hr hh
      have er : MX1_record fr (69 + 33 * fr) V 11 0 = nI np := by rw [r1 11 (by omega), p2]
      obtain ⟨V1, eV⟩ : ∃ v, v = gu (gu (gu (gu (gu (gu (MX1_record fr (69 + 33 * fr) V) 13 np a) 15 np 0) 17 np 0) 19 np 0) 21 np 26) 11 0 (nI (np + 1)) := ⟨_, rfl⟩
      have f1 : ∀ x, 34 ≤ x → V1 x = MX1_record fr (69 + 33 * fr) V x := fun x hx => by
        rw [eV, gu_row (by omega), gu_row (by omega), gu_row (by omega), gu_row (by omega), gu_row (by omega), gu_row (by omega)]
      obtain ⟨k0, k1, k2⟩ := chg_ok (V1 := V1) hr hh (fun x hx => f1 x (by omega))
      refine mut_ok hr hs hh ht V1 (upd (upd (upd (V 214) (192 + 6 * np) a) (192 + 6 * np + 4) 26) 1 (nI (np + 1))) (r := nI np) (fun x hx _ _ _ _ => f1 x hx) ?_ ?_ ?_ ?_ ?_ ?_
      · rw [eV, gu_row (by omega), gu_row (by omega), gu_row (by omega), gu_row (by omega), gu_row (by omega), gu_row (by omega), r1 0 (by omega)]
      · rw [if_neg cb8, if_pos hrun, if_pos e5]
        unfold BX8_seat_57 MX0_add BX0_add_14 BX0_add_23 BX0_add_32 BX0_add_41 BX0_add_46 MX0_dropHint
        rw [er, pu_put (n := 5) kd13 hp, pu_put (n := 5) kd15 hp, pu_put (n := 5) kd17 hp, pu_put (n := 5) kd19 hp, pu_put (n := 5) kd21 hp]
        rw [eV, gu_row (by omega), gu_row (by omega), gu_row (by omega), gu_row (by omega), gu_row (by omega), er, nI_1]
      · exact fun _ _ _ => rP
      · unfold PX9_seat PX9_seat_42 PX9_seat_53
        rw [pc1, k2, p3]
        refine fun _ _ _ => ⟨k0, ?_⟩
        rw [show (0 : Int32) = nI 0 from rfl, show (4 : Int32) = nI 4 from rfl, at_nat hp (by omega), at_nat hp (by omega)]
        exact ⟨pu_in (by omega) (by omega), pu_in (by omega) (by omega)⟩
      · unfold MX9_seat BX9_seat_42 BX9_seat_53 BX9_seat_65
        rw [if_neg (cb9 V1), if_pos (runs_off k2 g5.2.1), pc1, k2, p3, if_neg e5', show (0 : Int32) = nI 0 from rfl, show (4 : Int32) = nI 4 from rfl, at_nat hp (by omega), at_nat hp (by omega), nI_clamp (by omega), nI_clamp (by omega), gu_of k1, gu_gs, gu_gs, gs_at, upd_ne (by omega), upd_ne (by omega), p3, nI_1]
        rfl
      · have hc : ∀ q j, q < 33 → ((q ≠ 12 ∧ q ≠ 14 ∧ q ≠ 16 ∧ q ≠ 18 ∧ q ≠ 20) ∨ j ≠ np) → (q ≠ 10 ∨ j ≠ 0) → V1 (1 + q) j = V (1 + q) j := fun q j hq hj hj2 => by
          rw [eV, gu_eq, if_neg (by omega), gu_eq, if_neg (by omega), gu_eq, if_neg (by omega), gu_eq, if_neg (by omega), gu_eq, if_neg (by omega), gu_eq, if_neg (by omega), r1 (1 + q) (by omega)]
        have hm : ∀ j, j ≠ 192 + 6 * np → j ≠ 192 + 6 * np + 4 → j ≠ 1 → upd (upd (upd (V 214) (192 + 6 * np) a) (192 + 6 * np + 4) 26) 1 (nI (np + 1)) j = V 214 j := fun j h1 h2 h3 => by rw [upd_ne h3, upd_ne h2, upd_ne h1]
        refine ⟨nw, np + 1, kp, d, lim, st, ln, wt, lt, g1.congr (fun q j s => hc q j (by omega) (by omega) (by omega)) (fun j s => hm j (by omega) (by omega) (by omega)), ⟨by omega, ?_, upd_at, fun p hp1 => ?_, fun p hp1 hp2 => ?_⟩, g3.congr (fun q j s => hc q j (by omega) (by omega) (by omega)) (fun j s => hm j (by omega) (by omega) (by omega)), ?_, Or.inl ⟨(hc 23 0 (by omega) (by omega) (by omega)).trans g5.1, (hm 2 (by omega) (by omega) (by omega)).trans g5.2.1, fun p hp1 => ?_⟩⟩
        · show V1 (1 + 10) 0 = _
          rw [eV]; exact gu_at
        · by_cases e : p = np
          · subst e
            obtain ⟨u1, u2, u3⟩ := p5 p (Nat.le_refl _) hp
            have q0 : upd (upd (upd (V 214) (192 + 6 * p) a) (192 + 6 * p + 4) 26) 1 (nI (p + 1)) (192 + 6 * p) = a := by rw [upd_ne (by omega), upd_ne (by omega), upd_at]
            have q1 := (hm (192 + 6 * p + 1) (by omega) (by omega) (by omega)).trans u1
            have q2 := (hm (192 + 6 * p + 2) (by omega) (by omega) (by omega)).trans u2
            have q3 := (hm (192 + 6 * p + 3) (by omega) (by omega) (by omega)).trans u3
            have q4 : upd (upd (upd (V 214) (192 + 6 * p) a) (192 + 6 * p + 4) 26) 1 (nI (p + 1)) (192 + 6 * p + 4) = 26 := by rw [upd_ne (by omega), upd_at]
            rw [q0, q1, q2, q3, q4, eV]
            simp [gu_eq]
          · obtain ⟨u1, u2, u3, u4, u5, u6⟩ := p4 p (by omega)
            have w := fun j (hj : j < 6) => hm (192 + 6 * p + j) (by omega) (by omega) (by omega)
            have w0 := hm (192 + 6 * p) (by omega) (by omega) (by omega)
            have w1 := w 1 (by omega)
            have w2 := w 2 (by omega)
            have w3 := w 3 (by omega)
            have w4 := w 4 (by omega)
            have w5 := w 5 (by omega)
            rw [w0, w1, w2, w3, w4, w5]
            have c := fun q (hq : q < 33) (hq2 : q ≠ 10) => hc q p hq (by omega) (by omega)
            refine ⟨(c 12 (by omega) (by omega)).trans u1, (c 14 (by omega) (by omega)).trans u2, (c 16 (by omega) (by omega)).trans u3, (c 18 (by omega) (by omega)).trans u4, (c 20 (by omega) (by omega)).trans u5, ?_⟩
            rcases u6 with u6 | ⟨u6, q, hq, u7⟩
            · exact Or.inl u6
            · exact Or.inr ⟨(c 22 (by omega) (by omega)).trans u6, q, by omega, u7⟩
        · obtain ⟨u1, u2, u3⟩ := p5 p (by omega) hp2
          exact ⟨(hm _ (by omega) (by omega) (by omega)).trans u1, (hm _ (by omega) (by omega) (by omega)).trans u2, (hm _ (by omega) (by omega) (by omega)).trans u3⟩
        · have g4c := g4.congr (s2 := fun c => V1 (1 + c)) (fun j s => hc 0 j (by omega) (by omega) (by omega)) (fun j s => hm j (by omega) (by omega) (by omega))
          exact ⟨g4c.1, g4c.2.1, g4c.2.2.1, g4c.2.2.2.1, by have := g4c.2.2.2.2.1; omega, g4c.2.2.2.2.2⟩
        · by_cases e : p = np
          · subst e
            rw [upd_ne (by omega), upd_at]
          · exact (hm _ (by omega) (by omega) (by omega)).trans (g5.2.2 p (by omega))
    · have e5 : ¬ V 11 0 < 5 := by rw [p2]; exact nI_nlt (a := np) (b := 5) (by omega) (by omega)
      have e5' : nI np = 5 := by rw [show np = 5 by omega]; rfl
      refine err_ok h' (r := -3) (by rw [if_neg cb8, if_pos hrun, if_neg e5]) (fun _ _ q => absurd q e5) ?_ ?_
      · unfold PX9_seat; rw [pc1, p3]; exact fun _ _ q => absurd e5' q
      · unfold MX9_seat; rw [if_neg (cb9 V), if_pos (runs_off rfl g5.2.1), pc1, p3, if_pos e5']
  · have hrun : ¬ V 24 0 = 0 := by rw [show V 24 0 = 1 from g5.1]; exact one_ne
    have hrun9 := runs_on (V := V) rfl g5.2.1
    refine err_ok h' (r := -2) (by rw [if_neg cb8, if_neg hrun]) (fun _ q => absurd q hrun) ?_ ?_
    · unfold PX9_seat; exact fun _ q => absurd q hrun9
    · unfold MX9_seat; rw [if_neg (cb9 V), if_neg hrun9]
