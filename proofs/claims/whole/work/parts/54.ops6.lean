theorem ok_keep {V : gV} (h : gInv V) : okI (PX8_keep V) (MX8_keep V) PX9_keep MX9_keep := by
  obtain ⟨hr, hs, ⟨hn, fr, hh⟩, tl, ht⟩ := h
  have cp := Cp.state (k := 34) (o := 1) (V := V) (by omega) gSt_0.2 gSt_0.1
  have ho : ∀ x j, x < 34 ∨ 67 ≤ x → MX5_copyFrom 34 1 V x j = V x j := fun x j hx => cp.2 x j fun c e s => by have := (cp.1 c j s).1; omega
  have hor : ∀ x, x < 34 ∨ 67 ≤ x → MX5_copyFrom 34 1 V x = V x := fun x hx => funext fun j => ho x j hx
  obtain ⟨V1, eV⟩ : ∃ v, v = gu (MX5_copyFrom 34 1 V) 0 4 1 := ⟨_, rfl⟩
  have v1 : ∀ x, x ≠ 0 → V1 x = MX5_copyFrom 34 1 V x := fun x hx => by rw [eV, gu_row hx]
  obtain ⟨k1, k2⟩ := mw_copies (V := V1) (u := 214) (z := 216) kd214 kd216 (by omega)
  obtain ⟨V2, eV2⟩ : ∃ v, v = gu (gs V1 216 (fl (V1 216) (V1 214) 0 246)) 213 3 1 := ⟨_, rfl⟩
  have v2 : ∀ x, x ≠ 213 → x ≠ 216 → V2 x = V1 x := fun x hx h2 => by rw [eV2, gu_row hx, gs_ne h2]
  have v13 : ∀ j, j ≠ 3 → V2 213 j = V1 213 j := fun j hj => by rw [eV2, gu_col hj, gs_ne (by omega)]
  have vo : ∀ x, x ≠ 0 → x < 34 ∨ 67 ≤ x → x ≠ 213 → x ≠ 216 → V2 x = V x := fun x a b c d => by rw [v2 x c d, v1 x a, hor x b]
  have hr' := hr
  obtain ⟨nw, np, kp, d, lim, st, ln, wt, lt, g1, g2, g3, g4', g5⟩ := hr'
  have p2 : V 11 0 = nI np := g2.2.1
  have p3 : V 214 1 = nI np := g2.2.2.1
  refine okI_of (r := nI np) (V1 := V1) (V2 := V2) ?_ (PX5_ok (by omega) gSt_0.2 gSt_0.1 hr.bool) k1 ?_ ⟨?_, ?_, ⟨hn, fr, ?_⟩, tl, ?_⟩
  · unfold MX8_keep BX8_keep_11 BX8_keep_16
    rw [← eV, v1 11 (by omega), hor 11 (by omega), p2]
  · unfold MX9_keep BX9_keep_11 BX9_keep_16
    rw [k2, ← eV2, pc1, vo 214 (by omega) (by omega) (by omega) (by omega), p3]
  · refine hr.congr (fun c j s => ?_) (fun j _ => ?_)
    · have := S5_lt s
      show V2 (1 + c) j = V (1 + c) j
      rw [vo (1 + c) (by omega) (by omega) (by omega) (by omega)]
    · rw [vo 214 (by omega) (by omega) (by omega) (by omega)]
  · refine Or.inr ⟨?_, ?_, hr.congr (fun c j s => ?_) (fun j hj => ?_)⟩
    · rw [v2 0 (by omega) (by omega), eV, gu_at]
    · rw [eV2, gu_at]
    · have := S5_lt s
      show V2 (34 + c) j = V (1 + c) j
      rw [v2 _ (by omega) (by omega), v1 _ (by omega)]
      exact (cp.1 c j s).2
    · rw [eV2, gu_row (by omega), gs_at, fl_in (by omega) (by omega), v1 214 (by omega), hor 214 (by omega)]
      rfl
  · exact hh.congr (fun x a b => vo x (by omega) (by omega) (by omega) (by omega)) (by rw [v13 4 (by omega), v1 213 (by omega), hor 213 (by omega)]) (vo 215 (by omega) (by omega) (by omega) (by omega))
  · exact ht.congr (by rw [vo 201 (by omega) (by omega) (by omega) (by omega)]) (by rw [v13 6 (by omega), v1 213 (by omega), hor 213 (by omega)]) (vo 212 (by omega) (by omega) (by omega) (by omega)) (vo 217 (by omega) (by omega) (by omega) (by omega)) (vo 208 (by omega) (by omega) (by omega) (by omega))
theorem ok_restore {V : gV} (h : gInv V) : ∃ j, j < 4 ∧ okI (PX8_restore j (69 + 33 * j) V) (MX8_restore j (69 + 33 * j) V) PX9_restore MX9_restore := by
  have h' := h
  obtain ⟨hr, hs, ⟨hn, fr, hh⟩, tl, ht⟩ := h
  refine ⟨fr, hh.2.1, ?_⟩
  have hs' := hs
  rcases hs' with ⟨a1, a2⟩ | ⟨a1, a2, a3⟩
  · refine err_ok h' (r := -2) ?_ ?_ ?_ ?_
    · unfold MX8_restore; rw [if_pos a1]
    · unfold PX8_restore; exact fun q => absurd a1 q
    · unfold PX9_restore; exact fun q => absurd a2 q
    · unfold MX9_restore; rw [if_pos a2]
  obtain ⟨rP, r1, r2, r3, r4, r5⟩ := rec_ok hr hh
  have cp := Cp.state (k := 1) (o := 34) (V := MX1_record fr (69 + 33 * fr) V) (by omega) gSt_0.1 gSt_0.2
  obtain ⟨V1, eV⟩ : ∃ v, v = MX5_copyFrom 1 34 (MX1_record fr (69 + 33 * fr) V) := ⟨_, rfl⟩
  rw [← eV] at cp
  have hor : ∀ x, x = 0 ∨ 34 ≤ x → V1 x = MX1_record fr (69 + 33 * fr) V x := fun x hx => funext fun j => cp.2 x j fun c e s => by have := (cp.1 c j s).1; omega
  obtain ⟨k0, k1, k2⟩ := chg_ok (V1 := V1) hr hh (fun x hx => hor x (by omega))
  have hp4 : V1 213 4 = nI hn := by rw [hor 213 (by omega), r1 213 (by omega)]; exact hh.2.2.2.2.1
  obtain ⟨-, y1, -, -, -⟩ := mw_changes (V := V1) hh.1 hp4
  obtain ⟨c1, c2⟩ := mw_copies (V := MX9_changes V1) (u := 216) (z := 214) kd216 kd214 (by omega)
  have e216 : MX9_changes V1 216 = V 216 := by rw [y1 216 (by omega) (by omega), hor 216 (by omega), r1 216 (by omega)]
  have n1 : ¬ V 0 4 = 0 := by rw [a1]; exact one_ne
  have n2 : ¬ V1 213 3 = 0 := by rw [hor 213 (by omega), r1 213 (by omega), a2]; exact one_ne
  have hnow : gRel (fun c => V1 (1 + c)) (fl (MX9_changes V1 214) (MX9_changes V1 216) 0 246) := by
    refine a3.congr (fun c j s => ?_) (fun j hj => ?_)
    · have := S5_lt s
      show V1 (1 + c) j = V (34 + c) j
      rw [(cp.1 c j s).2, r1 _ (by omega)]
    · rw [fl_in (by omega) (by omega), e216]
      rfl
  have hnow' := hnow
  obtain ⟨nw, np, kp, d, lim, st, ln, wt, lt, g1, g2, g3, g4', g5⟩ := hnow'
  have p2 : V1 11 0 = nI np := g2.2.1
  refine mut_ok hr hs hh ht V1 (fl (MX9_changes V1 214) (MX9_changes V1 216) 0 246) (r := nI np) (fun x hx _ _ _ _ => hor x (by omega)) (by rw [hor 0 (by omega), r1 0 (by omega)]) ?_ ?_ ?_ ?_ hnow
  · unfold MX8_restore BX8_restore_21 BX8_restore_32
    rw [if_neg n1, ← eV, p2]
  · unfold PX8_restore PX8_restore_21
    refine fun _ => ⟨rP, PX5_ok (by omega) gSt_0.1 gSt_0.2 ?_⟩
    rw [r1 (34 + 23) (by omega)]
    exact a3.bool
  · unfold PX9_restore PX9_restore_14
    exact fun _ => ⟨k0, c1⟩
  · unfold MX9_restore BX9_restore_14 BX9_restore_25
    rw [if_neg n2, c2, pc1, gs_at]
    exact congrArg (fun z => (z, _)) g2.2.2.1
theorem ok_undo {V : gV} (h : gInv V) : ∃ j, j < 4 ∧ okI (PX8_undo j (69 + 33 * j) V) (MX8_undo j (69 + 33 * j) V) PX9_undo MX9_undo := by
  have h' := h
  obtain ⟨hr, hs, ⟨hn, fr, hh⟩, tl, ht⟩ := h
  refine ⟨(fr + 3) % 4, by omega, ?_⟩
  have hh' := hh
  obtain ⟨b1, b2, b3, b4, b5, b6⟩ := hh'
  by_cases e0 : hn = 0
  · subst e0
    have a1 : V 67 0 = 0 := b3
    have a2 : V 213 4 = 0 := b5
    refine err_ok h' (r := -2) ?_ ?_ ?_ ?_
    · unfold MX8_undo; rw [if_pos a1]
    · unfold PX8_undo; exact fun q => absurd a1 q
    · unfold PX9_undo; exact fun q => absurd a2 q
    · unfold MX9_undo; rw [if_pos a2]
  obtain ⟨p, rfl⟩ : ∃ p, hn = p + 1 := ⟨hn - 1, by omega⟩
  have a3 := b6 0 (by omega)
  rw [show (fr + 3 - 0) % 4 = (fr + 3) % 4 by omega, show p + 1 - 1 - 0 = p by omega] at a3
  have hd : 1 + 33 ≤ 69 + 33 * ((fr + 3) % 4) := by omega
  have cp := Cp.state (k := 1) (o := 69 + 33 * ((fr + 3) % 4)) (V := V) (by omega) gSt_0.1 (gSt_r _ (by omega))
  have hor : ∀ x, x = 0 ∨ 34 ≤ x → MX5_copyFrom 1 (69 + 33 * ((fr + 3) % 4)) V x = V x := fun x hx => funext fun j => cp.2 x j fun c e s => by have := (cp.1 c j s).1; omega
  have ex : V 67 1 + 4 - 1 - (V 67 1 + 4 - 1) / 4 * 4 = nI ((fr + 3) % 4) := by
    rw [b4, show (4 : Int32) = nI 4 from rfl, show (1 : Int32) = nI 1 from rfl, nI_add, pu_sub (by omega), show fr + 4 - 1 = fr + 3 by omega]
    exact pu_rem (by omega) (by omega)
  obtain ⟨V1, eV⟩ : ∃ v, v = gu (gu (MX5_copyFrom 1 (69 + 33 * ((fr + 3) % 4)) V) 67 1 (nI ((fr + 3) % 4))) 67 0 (nI p) := ⟨_, rfl⟩
  have v1 : ∀ x, x ≠ 67 → V1 x = MX5_copyFrom 1 (69 + 33 * ((fr + 3) % 4)) V x := fun x hx => by rw [eV, gu_row hx, gu_row hx]
  have vo : ∀ x, x = 0 ∨ 34 ≤ x → x ≠ 67 → V1 x = V x := fun x hx h2 => by rw [v1 x h2, hor x hx]
  have eM : MX1_takeLatest ((fr + 3) % 4) (69 + 33 * ((fr + 3) % 4)) V = V1 := by
    unfold MX1_takeLatest BX1_takeLatest_26 BX1_takeLatest_31
    rw [ex, gu_col (show 0 ≠ 1 by omega), hor 67 (by omega), b3, show (1 : Int32) = nI 1 from rfl, pu_sub (by omega), Nat.add_sub_cancel, if_neg (nI_pos (by omega)), ← eV]
  obtain ⟨c1, c2⟩ := mw_undo (V := gu V1 213 4 (nI p)) (p := p) (by omega) gu_at
  obtain ⟨V2, eV2⟩ : ∃ v, v = gs (gu V1 213 4 (nI p)) 214 (fl (gu V1 213 4 (nI p) 214) (fun j => gu V1 213 4 (nI p) 215 (246 * p + j)) 0 246) := ⟨_, rfl⟩
  have v2 : ∀ x, x ≠ 213 → x ≠ 214 → V2 x = V1 x := fun x hx h2 => by rw [eV2, gs_ne h2, gu_row hx]
  have v13 : ∀ j, j ≠ 4 → V2 213 j = V1 213 j := fun j hj => by rw [eV2, gs_ne (by omega), gu_col hj]
  have n1 : ¬ V 67 0 = 0 := by rw [b3]; exact nI_ne0 (by omega) (by omega)
  have n2 : ¬ V1 213 4 = 0 := by rw [vo 213 (by omega) (by omega), b5]; exact nI_ne0 (by omega) (by omega)
  have e4 : V1 213 4 - 1 = nI p := by rw [vo 213 (by omega) (by omega), b5, show (1 : Int32) = nI 1 from rfl, pu_sub (by omega), Nat.add_sub_cancel]
  refine okI_of (r := nI p) (V1 := V1) (V2 := V2) ?_ ?_ ?_ ?_ ⟨?_, ?_, ⟨p, (fr + 3) % 4, ?_⟩, tl, ?_⟩
  · unfold MX8_undo
    rw [if_neg n1, eM, show V1 67 0 = nI p by rw [eV, gu_at]]
  · unfold PX8_undo PX1_takeLatest
    exact fun _ => ⟨ex, PX5_ok (by omega) gSt_0.1 (gSt_r _ (by omega)) a3.bool⟩
  · unfold PX9_undo
    rw [e4]
    exact fun _ => c1
  · unfold MX9_undo
    rw [if_neg n2, e4, c2, ← eV2]
  · refine a3.congr (fun c j s => ?_) (fun j hj => ?_)
    · have := S5_lt s
      show V2 (1 + c) j = V (69 + 33 * ((fr + 3) % 4) + c) j
      rw [v2 _ (by omega) (by omega), v1 _ (by omega)]
      exact (cp.1 c j s).2
    · rw [eV2, gs_at, fl_in (by omega) (by omega), gu_row (by omega), vo 215 (by omega) (by omega)]
      rfl
  · exact hs.congr (by rw [v2 0 (by omega) (by omega), vo 0 (by omega) (by omega)]) (by rw [v13 3 (by omega), vo 213 (by omega) (by omega)]) (fun x a b => by rw [v2 x (by omega) (by omega), vo x (by omega) (by omega)]) (by rw [v2 216 (by omega) (by omega), vo 216 (by omega) (by omega)])
  · refine hh.pop (fun x a b => by rw [v2 x (by omega) (by omega), vo x (by omega) (by omega)]) ?_ ?_ ?_ (by rw [v2 215 (by omega) (by omega), vo 215 (by omega) (by omega)])
    · rw [v2 67 (by omega) (by omega), eV, gu_at]
    · rw [v2 67 (by omega) (by omega), eV, gu_col (by omega), gu_at]
    · rw [eV2, gs_ne (by omega), gu_at]
  · exact ht.congr (by rw [v2 201 (by omega) (by omega), vo 201 (by omega) (by omega)]) (by rw [v13 6 (by omega), vo 213 (by omega) (by omega)]) (by rw [v2 212 (by omega) (by omega), vo 212 (by omega) (by omega)]) (by rw [v2 217 (by omega) (by omega), vo 217 (by omega) (by omega)]) (by rw [v2 208 (by omega) (by omega), vo 208 (by omega) (by omega)])
