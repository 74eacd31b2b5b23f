/-- a call that changes the text alone -/
theorem txt_ok {V V2 : gV} {tl : Nat} (hr : gRel (fun c => V (1 + c)) (V 214)) (hs : gSn V) (hh : ∃ hn fr, gHs V hn fr) (f : ∀ x, x ≠ 201 → x ≠ 212 → x ≠ 213 → x ≠ 217 → x ≠ 218 → V2 x = V x) (f13 : ∀ j, j = 3 ∨ j = 4 → V2 213 j = V 213 j) (ht : gTx V2 tl) : gInv V2 := by
  obtain ⟨hn, fr, hh⟩ := hh
  refine ⟨hr.congr (fun c j s => ?_) (fun j _ => ?_), hs.congr ?_ (f13 3 (by omega)) (fun x a b => f x (by omega) (by omega) (by omega) (by omega) (by omega)) (f 216 (by omega) (by omega) (by omega) (by omega) (by omega)), ⟨hn, fr, hh.congr (fun x a b => f x (by omega) (by omega) (by omega) (by omega) (by omega)) (f13 4 (by omega)) (f 215 (by omega) (by omega) (by omega) (by omega) (by omega))⟩, tl, ht⟩
  · have := S5_lt s
    show V2 (1 + c) j = V (1 + c) j
    rw [f (1 + c) (by omega) (by omega) (by omega) (by omega) (by omega)]
  · rw [f 214 (by omega) (by omega) (by omega) (by omega) (by omega)]
  · rw [f 0 (by omega) (by omega) (by omega) (by omega) (by omega)]
theorem ok_type {V : gV} (h : gInv V) (a : Int32) : okI True (MX8_type a V) (PX9_type a) (MX9_type a) := by
  have h' := h
  obtain ⟨hr, hs, hh, tl, ht⟩ := h
  have ht' := ht
  obtain ⟨t1, t2, t3, t4, t5⟩ := ht'
  rcases in_nat (x := a) (a := 32) (b := 126) (V := V) (by omega) (by omega) with ca | ⟨ca, c, hc1, hc2, ea⟩
  · have c8 : MX8_isBetween a 32 126 V = 0 := ca
    refine err_ok h' (r := -1) (by unfold MX8_type; rw [if_pos c8]) True.intro ?_ ?_
    · unfold PX9_type; exact fun q => absurd ca q
    · unfold MX9_type; rw [if_pos (show MX9_in a 32 126 V = 0 from ca)]
  have c8 : ¬ MX8_isBetween a 32 126 V = 0 := fun q => one_ne (ca.symm.trans q)
  have c9 : ∀ V1 : gV, ¬ MX9_in a 32 126 V1 = 0 := fun V1 q => one_ne (ca.symm.trans q)
  by_cases e : tl < 120
  · have e1 : V 201 0 < 120 := by rw [t2]; exact nI_lt (b := 120) e (by omega)
    obtain ⟨V1, eV⟩ : ∃ v, v = gu (gu V 212 tl a) 201 0 (nI (tl + 1)) := ⟨_, rfl⟩
    have eA : MX6_append a V = V1 := by
      unfold MX6_append BX6_append_12
      rw [t2, pu_put (k := 211) (n := 120) kd212 e, eV]
      show gu (gu V 212 tl a) 201 0 (gu V 212 tl a 201 0 + 1) = _
      rw [gu_row (show 201 ≠ 212 by omega), t2, nI_1]
    have v1 : ∀ x, x ≠ 201 → x ≠ 212 → V1 x = V x := fun x a b => by rw [eV, gu_row a, gu_row b]
    have e6 : V1 213 6 = nI tl := by rw [v1 213 (by omega) (by omega), t3]
    have e2 : ¬ V1 213 6 = 120 := by rw [e6]; exact fun q => by have := (nI_eq (a := tl) (b := 120) (by omega) (by omega)).mp q; omega
    obtain ⟨V2, eV2⟩ : ∃ v, v = gu (gu V1 217 tl a) 213 6 (nI (tl + 1)) := ⟨_, rfl⟩
    have v2 : ∀ x, x ≠ 213 → x ≠ 217 → V2 x = V1 x := fun x a b => by rw [eV2, gu_row a, gu_row b]
    refine okI_of (r := nI (tl + 1)) (V1 := V1) (V2 := V2) ?_ True.intro ?_ ?_ (txt_ok (V := V) (tl := tl + 1) hr hs hh (fun x a b c d _ => by rw [v2 x c d, v1 x a b]) (fun j hj => by rw [eV2, gu_col (by omega), gu_row (by omega), v1 213 (by omega) (by omega)]) ⟨by omega, ?_, ?_, fun i hi => ?_, fun j hj => ?_⟩)
    · unfold MX8_type
      rw [if_neg c8, if_pos e1, eA, show V1 201 0 = nI (tl + 1) by rw [eV, gu_at]]
    · unfold PX9_type
      rw [e6]
      exact fun _ _ => pu_in e (by omega)
    · unfold MX9_type BX9_type_35
      rw [if_neg (c9 V1), if_neg e2, e6, nI_clamp (by omega), gu_row (show 213 ≠ 217 by omega), e6, nI_1, ← eV2, show V2 213 6 = nI (tl + 1) by rw [eV2, gu_at]]
    · rw [v2 201 (by omega) (by omega), eV, gu_at]
    · rw [eV2, gu_at]
    · have w1 : V2 212 i = upd (V 212) tl a i := by
        rw [v2 212 (by omega) (by omega), eV, gu_row (by omega)]
        unfold gu
        rw [gs_at]
      have w2 : V2 217 i = upd (V 217) tl a i := by
        rw [eV2, gu_row (by omega)]
        unfold gu
        rw [gs_at, v1 217 (by omega) (by omega)]
      rw [w1, w2]
      by_cases ei : i = tl
      · subst ei
        exact ⟨c, hc1, hc2, by rw [upd_at, ea], by rw [upd_at, ea]⟩
      · rw [upd_ne ei, upd_ne ei]
        exact t4 i (by omega)
    · rw [v2 208 (by omega) (by omega), v1 208 (by omega) (by omega)]
      exact t5 j hj
  · have et : tl = 120 := by omega
    have e1 : ¬ V 201 0 < 120 := by rw [t2, et]; exact nI_nlt (b := 120) (a := 120) (Nat.le_refl _) (by omega)
    have e2 : V 213 6 = 120 := by rw [t3, et]; rfl
    refine err_ok h' (r := -3) (by unfold MX8_type; rw [if_neg c8, if_neg e1]) True.intro ?_ ?_
    · unfold PX9_type; exact fun _ q => absurd e2 q
    · unfold MX9_type; rw [if_neg (c9 V), if_pos e2]
theorem ok_clearText {V : gV} (h : gInv V) : okI True (MX8_clearText V) (fun _ => True) MX9_clearText := by
  obtain ⟨hr, hs, hh, tl, ht⟩ := h
  obtain ⟨t1, t2, t3, t4, t5⟩ := ht
  refine okI_of (r := nI tl) (V1 := gu V 201 0 0) (V2 := gu (gu V 201 0 0) 213 6 0) ?_ True.intro True.intro ?_ (txt_ok (V := V) (tl := 0) hr hs hh (fun x a b c d _ => by rw [gu_row c, gu_row a]) (fun j hj => by rw [gu_col (by omega), gu_row (by omega)]) ⟨by omega, ?_, ?_, fun i hi => ?_, fun j hj => ?_⟩)
  · unfold MX8_clearText; rw [t2]
  · unfold MX9_clearText
    rw [gu_row (show 213 ≠ 201 by omega), t3]
  · rw [gu_row (by omega), gu_at]; rfl
  · rw [gu_at]; rfl
  · omega
  · rw [gu_row (by omega), gu_row (by omega)]
    exact t5 j hj
