theorem ok_whisper {V : gV} (h : gInv V) (a b c : Int32) : ∃ j, j < 4 ∧ okI (PX8_whisper j (69 + 33 * j) a b c V) (MX8_whisper j (69 + 33 * j) a b c V) (PX9_whisper a b c) (MX9_whisper a b c) := by
  have h' := h
  obtain ⟨hr, hs, ⟨hn, fr, hh⟩, tl, ht⟩ := h
  refine ⟨fr, hh.2.1, ?_⟩
  have hr' := hr
  obtain ⟨nw, np, kp, d, lim, st, ln, wt, lt, g1, g2, g3, g4, g5⟩ := hr'
  have g2' := g2
  obtain ⟨p1, p2, p3, p4, p5⟩ := g2'
  have p2 : V 11 0 = nI np := p2
  have p3 : V 214 1 = nI np := p3
  unfold PX8_whisper MX8_whisper
  rcases has_nat (x := a) (n := np) (by omega) with ca | ⟨ca, p, hp, ea⟩
  · have c8 : MX0_has a V = 0 := (hasP p2).trans ca
    have c9 : MX9_isPlayer a V = 0 := (isP p3).trans ca
    refine err_ok h' (r := -1) (by rw [if_pos c8]) (fun q => absurd c8 q) ?_ ?_
    · unfold PX9_whisper; exact fun q => absurd c9 q
    · unfold MX9_whisper; rw [if_pos c9]
  have c8 : ¬ MX0_has a V = 0 := fun q => one_ne (ca.symm.trans ((hasP p2).symm.trans q))
  have c9 : ∀ V1 : gV, V1 214 = V 214 → ¬ MX9_isPlayer a V1 = 0 := fun V1 e q => one_ne (ca.symm.trans ((isP (by rw [e, p3])).symm.trans q))
  rcases has_nat (x := b) (n := np) (by omega) with cb | ⟨cb, t, ht5, eb⟩
  · have d8 : MX0_has b V = 0 := (hasP p2).trans cb
    have d9 : MX9_isPlayer b V = 0 := (isP p3).trans cb
    refine err_ok h' (r := -1) (by rw [if_neg c8, if_pos d8]) (fun _ q => absurd d8 q) ?_ ?_
    · unfold PX9_whisper; exact fun _ q => absurd d9 q
    · unfold MX9_whisper; rw [if_neg (c9 V rfl), if_pos d9]
  have d8 : ¬ MX0_has b V = 0 := fun q => one_ne (cb.symm.trans ((hasP p2).symm.trans q))
  have d9 : ∀ V1 : gV, V1 214 = V 214 → ¬ MX9_isPlayer b V1 = 0 := fun V1 e q => one_ne (cb.symm.trans ((isP (by rw [e, p3])).symm.trans q))
  rcases in_nat (x := c) (a := 0) (b := 25) (V := V) (by omega) (by omega) with cc | ⟨cc, cn, hc1, hc2, ec⟩
  · have cb8 : MX8_isLetter c V = 0 := cc
    have cb9 : MX9_in c 0 25 V = 0 := cc
    refine err_ok h' (r := -1) (by rw [if_neg c8, if_neg d8, if_pos cb8]) (fun _ _ q => absurd cb8 q) ?_ ?_
    · unfold PX9_whisper; exact fun _ _ q => absurd cb9 q
    · unfold MX9_whisper; rw [if_neg (c9 V rfl), if_neg (d9 V rfl), if_pos cb9]
  have cb8 : ¬ MX8_isLetter c V = 0 := fun q => one_ne (cc.symm.trans q)
  have cb9 : ∀ V1 : gV, ¬ MX9_in c 0 25 V1 = 0 := fun _ => cb8
  have hp5 : p < 5 := by omega
  have ht5' : t < 5 := by omega
  have z4 : ∀ (q : Nat) (V1 : gV), q < 5 → MX9_at (nI q) 4 V1 = nI (192 + 6 * q + 4) := fun q V1 hq => at_nat (w := 4) hq (by omega)
  have z5 : ∀ (q : Nat) (V1 : gV), q < 5 → MX9_at (nI q) 5 V1 = nI (192 + 6 * q + 5) := fun q V1 hq => at_nat (w := 5) hq (by omega)
  have zi4 : ∀ (q : Nat) (V1 : gV), q < 5 → vp_in (MX9_at (nI q) 4 V1) 246 := fun q V1 hq => by rw [z4 q V1 hq]; exact pu_in (by omega) (by omega)
  have zi5 : ∀ (q : Nat) (V1 : gV), q < 5 → vp_in (MX9_at (nI q) 5 V1) 246 := fun q V1 hq => by rw [z5 q V1 hq]; exact pu_in (by omega) (by omega)
  -- what the reference asks, as one question
  have ask : ∀ V1 : gV, V1 214 = V 214 → ∀ s0 : Int32, (s0 = if nI p - nI t = 1 ∨ nI t - nI p = 1 then 1 else 0) → MX9_whisper a b c V1 = BX9_whisper_47 a b c s0 V1 ∧ (PX9_whisper_47 a b c s0 V1 → PX9_whisper a b c V1) := by
    intro V1 e s0 hs0
    unfold MX9_whisper PX9_whisper BX9_whisper_42 PX9_whisper_42
    rw [if_neg (c9 V1 e), if_neg (d9 V1 e), if_neg (cb9 V1), ea, eb, hs0]
    by_cases q1 : nI p - nI t = 1
    · rw [if_pos q1, if_pos (Or.inl q1)]
      exact ⟨rfl, fun k _ _ _ => ⟨fun _ => k, fun q => absurd q1 q⟩⟩
    · by_cases q2 : nI t - nI p = 1
      · rw [if_neg q1, if_pos q2, if_pos (Or.inr q2)]
        exact ⟨rfl, fun k _ _ _ => ⟨fun q => absurd q q1, fun _ => ⟨fun _ => k, fun q => absurd q2 q⟩⟩⟩
      · rw [if_neg q1, if_neg q2, if_neg (fun q => q.elim q1 q2)]
        exact ⟨rfl, fun k _ _ _ => ⟨fun q => absurd q q1, fun _ => ⟨fun q => absurd q q2, fun _ => k⟩⟩⟩
  rcases g5 with g5 | ⟨z, t', ms, gd, g5⟩
  · have hrun : V 24 0 = 0 := g5.1
    have tk : MX3_takes c V = 0 := by unfold MX3_takes; rw [if_pos hrun]
    have r9 := runs_off (V := V) rfl g5.2.1
    obtain ⟨k1, k2⟩ := ask V rfl _ rfl
    refine err_ok h' (r := -2) (by rw [if_neg c8, if_neg d8, if_neg cb8, if_pos tk]) (fun _ _ _ q => absurd tk q) (k2 ?_) (k1.trans ?_)
    · unfold PX9_whisper_47; exact fun q => absurd r9 q
    · unfold BX9_whisper_47; rw [if_pos r9]
  · have g5' := g5
    obtain ⟨o1, o2, o3, o4, o5, o6, o7, o8, o9, o10, o11, o12, o13, o14⟩ := g5'
    have hcr : cR V nw z gd := ⟨o1, o3, o6, o7.1, o12.1⟩
    have tk : MX3_takes c V = if gd.testBit cn = true then 0 else 1 := by rw [ec]; exact cr_takes hcr (by omega)
    have g9 : ∀ V1 : gV, V1 214 = V 214 → (((V1 214 ((6 : Int32)).toNatClampNeg >>> (c &&& 31)) &&& (1 : Int32)) = (1 : Int32) ↔ gd.testBit cn = true) := fun V1 e => by
      rw [e, pc6, show V 214 6 = nI gd from o12.2, ec]
      exact pu_shr (by omega) (by omega)
    have hb := beside_eq p hp5 t ht5'
    cases hgd : gd.testBit cn with
    | true =>
      rw [hgd, if_pos rfl] at tk
      have r9 := runs_on (V := V) rfl o2
      obtain ⟨k1, k2⟩ := ask V rfl _ rfl
      have g91 := (g9 V rfl).mpr hgd
      refine err_ok h' (r := -2) (by rw [if_neg c8, if_neg d8, if_neg cb8, if_pos tk]) (fun _ _ _ q => absurd tk q) (k2 ?_) (k1.trans ?_)
      · unfold PX9_whisper_47; exact fun _ _ q => absurd g91 q
      · unfold BX9_whisper_47
        rw [if_neg r9, if_pos g91]
        split <;> rfl
    | false =>
      rw [hgd, if_neg (by decide)] at tk
      have tk' : ¬ MX3_takes c V = 0 := by rw [tk]; exact one_ne
      by_cases hbe : nI p - nI t = 1 ∨ nI t - nI p = 1
      · have h8 : (if 0 ≤ (a - b) then (a - b) else 0 - (a - b)) = 1 := by rw [ea, eb]; exact hb.mpr hbe
        obtain ⟨rP, r1, r2, r3, r4, r5⟩ := rec_ok hr hh
        obtain ⟨u1, u2, u3, u4, u5, u6⟩ := p4 t ht5
        have u5 : V 21 t = V 214 (192 + 6 * t + 4) := u5
        obtain ⟨V1, eV⟩ : ∃ v, v = gu (gu (MX1_record fr (69 + 33 * fr) V) 21 t c) 23 t a := ⟨_, rfl⟩
        have f1 : ∀ x, 34 ≤ x → V1 x = MX1_record fr (69 + 33 * fr) V x := fun x hx => by rw [eV, gu_row (by omega), gu_row (by omega)]
        obtain ⟨k0, k1, k2⟩ := chg_ok (V1 := V1) hr hh (fun x hx => f1 x (by omega))
        obtain ⟨q1, q2⟩ := ask V1 k2 _ rfl
        have r9 := runs_on (V := V1) k2 o2
        have g91 : ¬ _ := fun q => by have := (g9 V1 k2).mp q; rw [hgd] at this; cases this
        refine mut_ok hr hs hh ht V1 (upd (upd (V 214) (192 + 6 * t + 4) c) (192 + 6 * t + 5) a) (r := V 21 t) (fun x hx _ _ _ _ => f1 x hx) (by rw [eV, gu_row (by omega), gu_row (by omega), r1 0 (by omega)]) ?_ ?_ (q2 ?_) (q1.trans ?_) ?_
        · unfold BX8_whisper_75 BX8_whisper_106
          rw [if_neg c8, if_neg d8, if_neg cb8, if_neg tk', if_pos h8, eb, pu_at (n := 5) kd21 ht5', pu_put (n := 5) kd21 ht5', pu_put (n := 5) kd23 ht5', eV]
          exact congrArg (fun z => (z, _)) (congrFun (r1 21 (by omega)) t)
        · exact fun _ _ _ _ _ => rP
        · unfold PX9_whisper_47 PX9_whisper_83 PX9_whisper_106
          rw [eb]
          exact fun _ _ _ => ⟨k0, zi4 t _ ht5', zi4 t _ ht5', zi5 t _ ht5'⟩
        · unfold BX9_whisper_47 BX9_whisper_83 BX9_whisper_106
          rw [if_neg r9, if_pos hbe, if_neg one_ne, if_neg g91, eb, z4 t _ ht5', z5 t _ ht5', nI_clamp (by omega), nI_clamp (by omega), gu_of k1, gu_gs, k1, u5]
        · have hc : ∀ q j, q < 33 → ((q ≠ 20 ∧ q ≠ 22) ∨ j ≠ t) → V1 (1 + q) j = V (1 + q) j := fun q j hq hj => by
            rw [eV, gu_eq, if_neg (by omega), gu_eq, if_neg (by omega), r1 (1 + q) (by omega)]
          have hm : ∀ j, j ≠ 192 + 6 * t + 4 → j ≠ 192 + 6 * t + 5 → upd (upd (V 214) (192 + 6 * t + 4) c) (192 + 6 * t + 5) a j = V 214 j := fun j h1 h2 => by rw [upd_ne h2, upd_ne h1]
          refine ⟨nw, np, kp, d, lim, st, ln, wt, lt, g1.congr (fun q j s => hc q j (by omega) (by omega)) (fun j s => hm j (by omega) (by omega)), ⟨p1, (hc 10 0 (by omega) (by omega)).trans p2, (hm 1 (by omega) (by omega)).trans p3, fun q hq => ?_, fun q hq1 hq2 => ?_⟩, g3.congr (fun q j s => hc q j (by omega) (by omega)) (fun j s => hm j (by omega) (by omega)), g4.congr (fun j s => hc 0 j (by omega) (by omega)) (fun j s => hm j (by omega) (by omega)), Or.inr ⟨z, t', ms, gd, g5.congr (fun j s => hc 23 j (by omega) (by omega)) (fun j s => hm j (by omega) (by omega))⟩⟩
          · obtain ⟨w1, w2, w3, w4, w5, w6⟩ := p4 q hq
            refine ⟨(hc 12 q (by omega) (by omega)).trans (w1.trans (hm _ (by omega) (by omega)).symm), (hc 14 q (by omega) (by omega)).trans (w2.trans (hm _ (by omega) (by omega)).symm), (hc 16 q (by omega) (by omega)).trans (w3.trans (hm _ (by omega) (by omega)).symm), (hc 18 q (by omega) (by omega)).trans (w4.trans (hm _ (by omega) (by omega)).symm), ?_, ?_⟩
            · by_cases e : q = t
              · subst e
                rw [upd_ne (by omega), upd_at, eV]
                exact (congrFun (gu_row (by omega)) q).trans gu_at
              · exact (hc 20 q (by omega) (by omega)).trans (w5.trans (hm _ (by omega) (by omega)).symm)
            · by_cases e : q = t
              · subst e
                refine Or.inr ⟨?_, p, hp, ?_⟩
                · rw [upd_at, eV]
                  exact gu_at
                · rw [upd_at, ea]
              · rw [hm (192 + 6 * q + 4) (by omega) (by omega), hm (192 + 6 * q + 5) (by omega) (by omega)]
                rcases w6 with w6 | ⟨w6, w7⟩
                · exact Or.inl w6
                · exact Or.inr ⟨(hc 22 q (by omega) (by omega)).trans w6, w7⟩
          · obtain ⟨w1, w2, w3⟩ := p5 q hq1 hq2
            exact ⟨(hm _ (by omega) (by omega)).trans w1, (hm _ (by omega) (by omega)).trans w2, (hm _ (by omega) (by omega)).trans w3⟩
      · have h8 : ¬ (if 0 ≤ (a - b) then (a - b) else 0 - (a - b)) = 1 := by rw [ea, eb]; exact fun q => hbe (hb.mp q)
        have r9 := runs_on (V := V) rfl o2
        obtain ⟨k1, k2⟩ := ask V rfl _ rfl
        rw [if_neg hbe] at k1 k2
        refine err_ok h' (r := -2) (by rw [if_neg c8, if_neg d8, if_neg cb8, if_neg tk', if_neg h8]) (fun _ _ _ _ q => absurd q h8) (k2 ?_) (k1.trans ?_)
        · unfold PX9_whisper_47; exact fun _ q => absurd rfl q
        · unfold BX9_whisper_47; rw [if_neg r9, if_pos rfl]
