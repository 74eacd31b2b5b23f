theorem pu_atp {k p : Nat} {V : gV} (hk : gk (k + 1) = 5 + 11) (hp : p < 5) : MX4_at k (nI p) V = V (k + 1) p := pu_at hk hp
theorem ok_lend {V : gV} (h : gInv V) (a b c : Int32) : ∃ j, j < 4 ∧ okI (PX8_lend j (69 + 33 * j) a b c V) (MX8_lend j (69 + 33 * j) a b c V) (PX9_lend a b c) (MX9_lend a b c) := by
  have h' := h
  obtain ⟨hr, hs, ⟨hn, fr, hh⟩, tl, ht⟩ := h
  refine ⟨fr, hh.2.1, ?_⟩
  have hr' := hr
  obtain ⟨nw, np, kp, d, lim, st, ln, wt, lt, g1, g2, g3, g4, g5⟩ := hr'
  have g2' := g2
  obtain ⟨p1, p2, p3, p4, p5⟩ := g2'
  have p2 : V 11 0 = nI np := p2
  have p3 : V 214 1 = nI np := p3
  unfold PX8_lend MX8_lend
  rcases has_nat (x := a) (n := np) (by omega) with ca | ⟨ca, p, hp, ea⟩
  · have c8 : MX0_has a V = 0 := (hasP p2).trans ca
    have c9 : MX9_isPlayer a V = 0 := (isP p3).trans ca
    refine err_ok h' (r := -1) (by rw [if_pos c8]) (fun q => absurd c8 q) ?_ ?_
    · unfold PX9_lend; exact fun q => absurd c9 q
    · unfold MX9_lend; rw [if_pos c9]
  have c8 : ¬ MX0_has a V = 0 := fun q => one_ne (ca.symm.trans ((hasP p2).symm.trans q))
  have c9 : ∀ V1 : gV, V1 214 = V 214 → ¬ MX9_isPlayer a V1 = 0 := fun V1 e q => one_ne (ca.symm.trans ((isP (by rw [e, p3])).symm.trans q))
  rcases has_nat (x := b) (n := np) (by omega) with cb | ⟨cb, t, ht5, eb⟩
  · have d8 : MX0_has b V = 0 := (hasP p2).trans cb
    have d9 : MX9_isPlayer b V = 0 := (isP p3).trans cb
    refine err_ok h' (r := -1) (by rw [if_neg c8, if_pos d8]) (fun _ q => absurd d8 q) ?_ ?_
    · unfold PX9_lend; exact fun _ q => absurd d9 q
    · unfold MX9_lend; rw [if_neg (c9 V rfl), if_pos d9]
  have d8 : ¬ MX0_has b V = 0 := fun q => one_ne (cb.symm.trans ((hasP p2).symm.trans q))
  have d9 : ∀ V1 : gV, V1 214 = V 214 → ¬ MX9_isPlayer b V1 = 0 := fun V1 e q => one_ne (cb.symm.trans ((isP (by rw [e, p3])).symm.trans q))
  by_cases hab : a = b
  · refine err_ok h' (r := -1) (by rw [if_neg c8, if_neg d8, if_pos hab]) (fun _ _ q => absurd hab q) ?_ ?_
    · unfold PX9_lend; exact fun _ _ q => absurd hab q
    · unfold MX9_lend; rw [if_neg (c9 V rfl), if_neg (d9 V rfl), if_pos hab]
  have hpt : p ≠ t := fun q => hab (by rw [ea, eb, q])
  rcases in_nat (x := c) (a := 1) (b := 999) (V := V) (by omega) (by omega) with cc | ⟨cc, cn, hc1, hc2, ec⟩
  · have cb8 : MX8_isBetween c 1 999 V = 0 := cc
    have cb9 : MX9_in c 1 999 V = 0 := cc
    refine err_ok h' (r := -1) (by rw [if_neg c8, if_neg d8, if_neg hab, if_pos cb8]) (fun _ _ _ q => absurd cb8 q) ?_ ?_
    · unfold PX9_lend; exact fun _ _ _ q => absurd cb9 q
    · unfold MX9_lend; rw [if_neg (c9 V rfl), if_neg (d9 V rfl), if_neg hab, if_pos cb9]
  have cb8 : ¬ MX8_isBetween c 1 999 V = 0 := fun q => one_ne (cc.symm.trans q)
  have cb9 : ∀ V1 : gV, ¬ MX9_in c 1 999 V1 = 0 := fun _ => cb8
  have hp5 : p < 5 := by omega
  have ht5' : t < 5 := by omega
  obtain ⟨u1, u2, u3, u4, u5, u6⟩ := p4 p hp
  obtain ⟨v1, v2, v3, v4, v5, v6⟩ := p4 t ht5
  have u1 : V 13 p = V 214 (192 + 6 * p) := u1
  have v1 : V 13 t = V 214 (192 + 6 * t) := v1
  have eat : MX4_at 12 a V = V 13 p := by rw [ea]; exact pu_at (n := 5) kd13 hp5
  have z0 : ∀ (q : Nat) (V1 : gV), q < 5 → MX9_at (nI q) 0 V1 = nI (192 + 6 * q) := fun q V1 hq => at_nat (w := 0) hq (by omega)
  have i0 : ∀ q, q < 5 → vp_in (nI (192 + 6 * q)) 246 := fun q hq => pu_in (by omega) (by omega)
  have zi : ∀ (q : Nat) (V1 : gV), q < 5 → vp_in (MX9_at (nI q) 0 V1) 246 := fun q V1 hq => by rw [z0 q V1 hq]; exact i0 q hq
  by_cases hle : c ≤ V 13 p
  · obtain ⟨rP, r1, r2, r3, r4, r5⟩ := rec_ok hr hh
    have er : MX1_record fr (69 + 33 * fr) V 13 = V 13 := r1 13 (by omega)
    obtain ⟨V1, eV⟩ : ∃ v, v = gu (gu (MX1_record fr (69 + 33 * fr) V) 13 p (V 13 p + -c)) 13 t (V 13 t + c) := ⟨_, rfl⟩
    have f1 : ∀ x, 34 ≤ x → V1 x = MX1_record fr (69 + 33 * fr) V x := fun x hx => by rw [eV, gu_row (by omega), gu_row (by omega)]
    obtain ⟨k0, k1, k2⟩ := chg_ok (V1 := V1) hr hh (fun x hx => f1 x (by omega))
    refine mut_ok hr hs hh ht V1 (upd (upd (V 214) (192 + 6 * p) (V 13 p + -c)) (192 + 6 * t) (V 13 t + c)) (r := V 13 p + -c) (fun x hx _ _ _ _ => f1 x hx) (by rw [eV, gu_row (by omega), gu_row (by omega), r1 0 (by omega)]) ?_ ?_ ?_ ?_ ?_
    · unfold BX8_lend_78 BX8_lend_94 BX8_lend_109
      rw [if_neg c8, if_neg d8, if_neg hab, if_neg cb8, eat, if_pos hle, ea, eb, pu_add (n := 5) kd13 hp5, pu_add (n := 5) kd13 ht5', pu_at (n := 5) kd13 hp5]
      have e1 : MX1_record fr (69 + 33 * fr) V (12 + 1) p = V 13 p := congrFun er p
      rw [e1]
      have e2 : gu (MX1_record fr (69 + 33 * fr) V) (12 + 1) p (V 13 p + -c) (12 + 1) t = V 13 t := (gu_col (fun q => hpt q.symm)).trans (congrFun er t)
      rw [e2, ← eV, eV]
      exact congrArg (fun z => (z, _)) ((gu_col hpt).trans gu_at)
    · exact fun _ _ _ _ _ => rP
    · unfold PX9_lend PX9_lend_55 PX9_lend_69 PX9_lend_83
      rw [ea, eb]
      exact fun _ _ _ _ => ⟨zi p _ hp5, fun _ => ⟨k0, zi p _ hp5, zi p _ hp5, zi t _ ht5', zi t _ ht5', zi p _ hp5⟩⟩
    · unfold MX9_lend BX9_lend_55 BX9_lend_69 BX9_lend_83
      rw [if_neg (c9 V1 k2), if_neg (d9 V1 k2), if_neg hab, if_neg (cb9 V1), ea, eb, z0 p _ hp5, z0 p _ hp5, z0 t _ ht5', nI_clamp (by omega), nI_clamp (by omega), k2, ← u1, if_pos hle]
      rw [gu_of k1, gu_gs, gs_at, gs_at, k1, upd_ne (show 192 + 6 * t ≠ 192 + 6 * p by omega), ← v1, ← u1, z0 p _ hp5, nI_clamp (by omega), upd_ne (show 192 + 6 * p ≠ 192 + 6 * t by omega), upd_at, Int32.sub_eq_add_neg]
    · have hc : ∀ q j, q < 33 → (q ≠ 12 ∨ (j ≠ p ∧ j ≠ t)) → V1 (1 + q) j = V (1 + q) j := fun q j hq hj => by
        rw [eV, gu_eq, if_neg (by omega), gu_eq, if_neg (by omega), r1 (1 + q) (by omega)]
      have hm : ∀ j, j ≠ 192 + 6 * p → j ≠ 192 + 6 * t → upd (upd (V 214) (192 + 6 * p) (V 13 p + -c)) (192 + 6 * t) (V 13 t + c) j = V 214 j := fun j h1 h2 => by rw [upd_ne h2, upd_ne h1]
      have hm6 : ∀ q j, j ≠ 0 → j < 6 → upd (upd (V 214) (192 + 6 * p) (V 13 p + -c)) (192 + 6 * t) (V 13 t + c) (192 + 6 * q + j) = V 214 (192 + 6 * q + j) := fun q j h1 h2 => hm _ (by omega) (by omega)
      refine ⟨nw, np, kp, d, lim, st, ln, wt, lt, g1.congr (fun q j s => hc q j (by omega) (by omega)) (fun j s => hm j (by omega) (by omega)), ⟨p1, (hc 10 0 (by omega) (by omega)).trans p2, (hm 1 (by omega) (by omega)).trans p3, fun q hq => ?_, fun q hq1 hq2 => ?_⟩, g3.congr (fun q j s => hc q j (by omega) (by omega)) (fun j s => hm j (by omega) (by omega)), g4.congr (fun j s => hc 0 j (by omega) (by omega)) (fun j s => hm j (by omega) (by omega)), ?_⟩
      · obtain ⟨w1, w2, w3, w4, w5, w6⟩ := p4 q hq
        have x1 := hm6 q 1 (by omega) (by omega)
        have x2 := hm6 q 2 (by omega) (by omega)
        have x3 := hm6 q 3 (by omega) (by omega)
        have x4 := hm6 q 4 (by omega) (by omega)
        have x5 := hm6 q 5 (by omega) (by omega)
        rw [x1, x2, x3, x4, x5]
        refine ⟨?_, (hc 14 q (by omega) (by omega)).trans w2, (hc 16 q (by omega) (by omega)).trans w3, (hc 18 q (by omega) (by omega)).trans w4, (hc 20 q (by omega) (by omega)).trans w5, ?_⟩
        · show V1 (1 + 12) q = _
          by_cases e1 : q = t
          · subst e1
            rw [upd_at, eV]
            exact gu_at
          · by_cases e2 : q = p
            · subst e2
              rw [upd_ne (by omega), upd_at, eV]
              exact (gu_col hpt).trans gu_at
            · rw [hm _ (by omega) (by omega)]
              exact (hc 12 q (by omega) (by omega)).trans w1
        · rcases w6 with w6 | ⟨w6, w7⟩
          · exact Or.inl w6
          · exact Or.inr ⟨(hc 22 q (by omega) (by omega)).trans w6, w7⟩
      · obtain ⟨w1, w2, w3⟩ := p5 q hq1 hq2
        exact ⟨(hm6 q 1 (by omega) (by omega)).trans w1, (hm6 q 2 (by omega) (by omega)).trans w2, (hm6 q 3 (by omega) (by omega)).trans w3⟩
      · rcases g5 with g5 | ⟨z, t', ms, gd, g5⟩
        · exact Or.inl (g5.congr p1 (hc 23 0 (by omega) (by omega)) ⟨hm 2 (by omega) (by omega), fun q hq => hm6 q 4 (by omega) (by omega)⟩)
        · exact Or.inr ⟨z, t', ms, gd, g5.congr (fun j s => hc 23 j (by omega) (by omega)) (fun j s => hm j (by omega) (by omega))⟩
  · refine err_ok h' (r := -2) (by rw [if_neg c8, if_neg d8, if_neg hab, if_neg cb8, eat, if_neg hle]) (fun _ _ _ _ => by rw [eat]; exact fun q => absurd q hle) ?_ ?_
    · unfold PX9_lend
      rw [ea, z0 p _ hp5, nI_clamp (by omega), ← u1]
      exact fun _ _ _ _ => ⟨i0 p hp5, fun q => absurd q hle⟩
    · unfold MX9_lend
      rw [if_neg (c9 V rfl), if_neg (d9 V rfl), if_neg hab, if_neg (cb9 V), ea, z0 p _ hp5, nI_clamp (by omega), ← u1, if_neg hle]
theorem beside_eq : ∀ p, p < 5 → ∀ t, t < 5 → (((if 0 ≤ (nI p - nI t) then (nI p - nI t) else 0 - (nI p - nI t)) = 1) ↔ (nI p - nI t = 1 ∨ nI t - nI p = 1)) := by decide +kernel
