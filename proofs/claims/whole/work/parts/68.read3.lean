theorem ok_read {V : gV} (h : gInv V) : ∃ j, j < 4 ∧ okI (PX8_read j (69 + 33 * j) V) (MX8_read j (69 + 33 * j) V) PX9_read MX9_read := by
  have h' := h
  obtain ⟨hr, hs, ⟨hn, fr, hh⟩, tl, ht⟩ := h
  refine ⟨fr, hh.2.1, ?_⟩
  have hr' := hr
  obtain ⟨nw, np, kp, d, lim, st, ln, wt, lt, g1, g2, g3, g4, g5⟩ := hr'
  rcases g5 with g5 | ⟨z, t, ms, gd, g5⟩
  rotate_left
  · have e8 : ¬ V 24 0 = 0 := fun q => one_ne (g5.1.symm.trans q)
    have e9 : ¬ MX9_runs V = 0 := runs_on rfl g5.2.1
    refine err_ok h' (r := -2) ?_ ?_ ?_ ?_
    · unfold MX8_read; rw [if_neg e8]
    · unfold PX8_read; exact fun q => absurd q e8
    · unfold PX9_read; exact fun q => absurd q e9
    · unfold MX9_read; rw [if_neg e9]
  have e8 : V 24 0 = 0 := g5.1
  have fr0 := sc_frame ht
  obtain ⟨A2, eA⟩ : ∃ v, v = MX6_scan V := ⟨_, rfl⟩
  have fA : ∀ x, x ≠ 201 → x ≠ 202 → x ≠ 204 → x ≠ 206 → x ≠ 210 → A2 x = V x := fun x => by rw [eA]; exact fr0 x
  obtain ⟨s1, s2, s3, s4⟩ := g_scan (B := A2) ht (fun x hx => fA x (by omega) (by omega) (by omega) (by omega) (by omega))
  rw [← eA] at s3 s4
  rcases s4 with ⟨-, -, -, -, -, -, -, -, e4⟩ | ⟨B2, e1, e2, e3⟩
  rotate_left
  · have hz : ¬ MX6_hasFault A2 = 0 := by unfold MX6_hasFault; rw [if_neg e2.ne]; exact one_ne
    have e9 : MX9_runs A2 = 0 := runs_off (fA 214 (by omega) (by omega) (by omega) (by omega) (by omega)) g5.2.1
    refine okI_of (r := -2) (V1 := A2) (V2 := B2) ?_ ?_ ?_ ?_ (scan_inv h' e3 s3)
    · unfold MX8_read BX8_read_23; rw [if_pos e8, ← eA, if_neg hz]
    · unfold PX8_read PX8_read_23; rw [← eA]; exact fun _ => ⟨s1, fun q => absurd q hz⟩
    · unfold PX9_read PX9_read_11; rw [e1]; exact fun _ => ⟨s2, fun q => absurd (show (0 : Int32) = 0 from Eq.refl 0) q⟩
    · unfold MX9_read BX9_read_11; rw [if_pos e9, e1]; exact if_pos (Eq.refl 0)
  have hz : MX6_hasFault A2 = 0 := by unfold MX6_hasFault; rw [if_pos e4]
  have hrA : gRel (fun c => A2 (1 + c)) (A2 214) := hr.congr (fun c j s => by
    have := S5_lt s
    show A2 (1 + c) j = V (1 + c) j
    rw [fA (1 + c) (by omega) (by omega) (by omega) (by omega) (by omega)]) (fun j _ => by rw [fA 214 (by omega) (by omega) (by omega) (by omega) (by omega)])
  have hhA : gHs A2 hn fr := hh.congr (fun x a b => fA x (by omega) (by omega) (by omega) (by omega) (by omega)) (by rw [fA 213 (by omega) (by omega) (by omega) (by omega) (by omega)]) (fA 215 (by omega) (by omega) (by omega) (by omega) (by omega))
  obtain ⟨rP, r1, r2, r3, r4, r5⟩ := rec_ok hrA hhA
  obtain ⟨R, eR⟩ : ∃ v, v = MX1_record fr (69 + 33 * fr) A2 := ⟨_, rfl⟩
  rw [← eR] at r1 r2 r3 r4 r5
  obtain ⟨V1, eV⟩ : ∃ v, v = MX7_copyFrom 2 202 R := ⟨_, rfl⟩
  have cp := Cp.words (k := 2) (o := 202) (V := R) (by omega) (fun r hr => by rcases hr with rfl | rfl | rfl; exact ⟨kd4, kd204⟩; exact ⟨kd6, kd206⟩; exact ⟨kd8, kd208⟩) ⟨kd10, kd210⟩
  rw [← eV] at cp
  have v1 : ∀ x, x ≠ 2 → x ≠ 4 → x ≠ 6 → x ≠ 8 → x ≠ 10 → V1 x = R x := fun x a b c d e => funext fun j => cp.2 x j (fun c e s => by unfold S7 at s; omega)
  have vA : ∀ x, x < 67 ∨ 201 ≤ x → x ≠ 2 → x ≠ 4 → x ≠ 6 → x ≠ 8 → x ≠ 10 → V1 x = A2 x := fun x q a b c d e => (v1 x a b c d e).trans (r1 x q)
  have vV : ∀ x, x < 67 ∨ 211 ≤ x → x ≠ 2 → x ≠ 4 → x ≠ 6 → x ≠ 8 → x ≠ 10 → V1 x = V x := fun x q a b c d e => (vA x (by omega) a b c d e).trans (fA x (by omega) (by omega) (by omega) (by omega) (by omega))
  obtain ⟨u1, u2, u3, u4⟩ := g_scan (B := V1) ht (fun x hx => vV x (by omega) (by omega) (by omega) (by omega) (by omega) (by omega))
  rw [← eA] at u3 u4
  rcases u4 with ⟨B2, k, ll, ww, lw, e1, e2, e3, -⟩ | ⟨B2, e1, e2, e3⟩
  rotate_left
  · exact absurd e4 e2.ne
  have hk := e2.1
  have h8 : ∀ w, w < k → ll w ≤ 8 := fun w hw => (e2.2.2.2 w hw).1.2.1
  have b13 : ∀ j, j ≠ 7 → j ≠ 8 → j ≠ 9 → B2 213 j = V 213 j := fun j a b c => (e3.2.2 j a b c).trans (by rw [vV 213 (by omega) (by omega) (by omega) (by omega) (by omega) (by omega)])
  have bV : ∀ x, x ≠ 213 → x ≠ 218 → B2 x = V1 x := fun x a b => e3.2.1 x a b
  obtain ⟨c0, c1, c2, c3, c4⟩ := mw_changes (V := B2) hh.1 ((b13 4 (by omega) (by omega) (by omega)).trans hh.2.2.2.2.1)
  obtain ⟨W, eW⟩ : ∃ v, v = MX9_changes B2 := ⟨_, rfl⟩
  rw [← eW] at c1 c2 c3 c4
  have w214 : W 214 = V 214 := (c1 214 (by omega) (by omega)).trans ((bV 214 (by omega) (by omega)).trans (vV 214 (by omega) (by omega) (by omega) (by omega) (by omega) (by omega)))
  have w9 : W 213 9 = nI k := (c2 9 (by omega)).trans e2.2.2.1
  obtain ⟨n1, n2⟩ := m_rd e2 (c1 218 (by omega) (by omega)) w9 (upd (V 214) 0 (nI k))
  obtain ⟨m2, em⟩ : ∃ v, v = mWds ll ww lw (upd (V 214) 0 (nI k)) k := ⟨_, rfl⟩
  rw [← em] at n2
  have hg : gu W 214 ((0 : Int32)).toNatClampNeg (W 213 9) = gs W 214 (upd (V 214) 0 (nI k)) := by rw [w9]; exact gu_of w214
  have e9 : MX9_runs V1 = 0 := runs_off (vV 214 (by omega) (by omega) (by omega) (by omega) (by omega) (by omega)) g5.2.1
  have mo : ∀ j, j ≠ 0 → j < 16 ∨ 192 ≤ j → m2 j = V 214 j := fun j a b => by rw [em, mWds_out k h8 (by omega), upd_ne a]
  have ws : ∀ x, x < 213 → gs W 214 m2 x = V1 x := fun x hx => by rw [gs_ne (by omega), c1 x (by omega) (by omega), bV x (by omega) (by omega)]
  have c20 : V1 2 0 = nI k := ((cp.1 0 0 (by unfold S7; omega)).2.trans (by rw [r1 202 (by omega)])).trans e2.2.1
  refine okI_of (r := nI k) (V1 := V1) (V2 := gs W 214 m2) ?_ ?_ ?_ ?_ ?_
  · unfold MX8_read BX8_read_23 BX8_read_47 BX8_read_64
    rw [if_pos e8, ← eA, if_pos hz, ← eR, ← eV, c20]
  · unfold PX8_read PX8_read_23
    rw [← eA]
    exact fun _ => ⟨s1, fun _ => rP⟩
  · unfold PX9_read PX9_read_11 PX9_read_21
    rw [e1]
    refine fun _ => ⟨u2, fun _ => ⟨c0, ?_⟩⟩
    show PX9_read_31 (gu (MX9_changes B2) 214 ((0 : Int32)).toNatClampNeg (MX9_changes B2 213 9))
    rw [← eW, hg]
    exact n1
  · unfold MX9_read BX9_read_11 BX9_read_21
    rw [if_pos e9, e1]
    show (if (1 : Int32) = 0 then ((-2 : Int32), B2) else BX9_read_31 (gu (MX9_changes B2) 214 ((0 : Int32)).toNatClampNeg (MX9_changes B2 213 9))) = _
    rw [if_neg one_ne, ← eW, hg]
    exact n2
  · refine ⟨?_, hs.congr ?_ ?_ (fun x a b => ?_) ?_, ⟨_, _, hhA.push hrA (V2 := gs W 214 m2) (fun c j s => ?_) (fun x a b e => ?_) ?_ ?_ ?_ ?_⟩, tl, ht.congr ?_ ?_ ?_ ?_ ?_⟩
    · rw [gs_at]
      have sc : ∀ c j, c < 33 → c ≠ 1 → c ≠ 3 → c ≠ 5 → c ≠ 7 → c ≠ 9 → (fun c => gs W 214 m2 (1 + c)) c j = (fun c => V (1 + c)) c j := fun c j hc _ _ _ _ _ => by
        show gs W 214 m2 (1 + c) j = V (1 + c) j
        rw [ws (1 + c) (by omega), vV (1 + c) (by omega) (by omega) (by omega) (by omega) (by omega) (by omega)]
      refine ⟨k, np, kp, d, lim, st, ll, ww, lw, ⟨hk, ?_, ?_, fun w hw => ?_⟩, g2.congr (fun c j q => sc c j (by omega) (by omega) (by omega) (by omega) (by omega) (by omega)) (fun j q => mo j (by omega) (by omega)), g3.congr (fun c j q => sc c j (by omega) (by omega) (by omega) (by omega) (by omega) (by omega)) (fun j q => mo j (by omega) (by omega)), g4.congr (fun j q => sc 0 j (by omega) (by omega) (by omega) (by omega) (by omega) (by omega)) (fun j q => mo j (by omega) (by omega)), Or.inl (g5.congr g2.1 (sc 23 0 (by omega) (by omega) (by omega) (by omega) (by omega) (by omega)) ⟨mo 2 (by omega) (by omega), fun p hp => mo _ (by omega) (by omega)⟩)⟩
      · show gs W 214 m2 2 0 = nI k
        rw [ws 2 (by omega)]
        exact c20
      · rw [em, mWds_out k h8 (by omega), upd_at]
      · obtain ⟨a1, a2, a3, a4, a5, a6⟩ := e2.2.2.2 w hw
        obtain ⟨i1, i2, i3, i4⟩ := mWds_in (ww := ww) (lw := lw) (m := upd (V 214) 0 (nI k)) k h8 hw
        rw [← em] at i1 i2 i3 i4
        refine ⟨a1, ?_, i1, ?_, i2, ?_, fun i hi => ⟨(a6 i hi).1, ?_, i4 i hi⟩⟩
        · show gs W 214 m2 4 w = nI (ll w)
          rw [ws 4 (by omega)]
          exact ((cp.1 2 w (by unfold S7; omega)).2.trans (by rw [r1 204 (by omega)])).trans a2
        · show gs W 214 m2 6 w = nI (ww w)
          rw [ws 6 (by omega)]
          exact ((cp.1 4 w (by unfold S7; omega)).2.trans (by rw [r1 206 (by omega)])).trans a4
        · show gs W 214 m2 8 w = _
          rw [ws 8 (by omega), i3]
          exact ((cp.1 6 w (by unfold S7; omega)).2.trans (by rw [r1 208 (by omega), fA 208 (by omega) (by omega) (by omega) (by omega) (by omega)])).trans (ht.2.2.2.2 w (by omega))
        · show gs W 214 m2 10 (w * 8 + i) = nI (lw w i)
          have := h8 w hw
          rw [ws 10 (by omega)]
          exact ((cp.1 8 (w * 8 + i) (by unfold S7; omega)).2.trans (by rw [r1 210 (by omega)])).trans (a6 i hi).2.1
    · rw [ws 0 (by omega), vV 0 (by omega) (by omega) (by omega) (by omega) (by omega) (by omega)]
    · rw [gs_ne (by omega), c2 3 (by omega), b13 3 (by omega) (by omega) (by omega)]
    · rw [ws x (by omega), vV x (by omega) (by omega) (by omega) (by omega) (by omega) (by omega)]
    · rw [gs_ne (by omega), c1 216 (by omega) (by omega), bV 216 (by omega) (by omega), vV 216 (by omega) (by omega) (by omega) (by omega) (by omega) (by omega)]
    · have := S5_lt s
      have := hh.2.1
      rw [ws _ (by omega), v1 _ (by omega) (by omega) (by omega) (by omega) (by omega)]
      exact r2 c j s
    · rw [ws x (by omega), v1 x (by omega) (by omega) (by omega) (by omega) (by omega)]
      exact r3 x a b e
    · rw [ws 67 (by omega), v1 67 (by omega) (by omega) (by omega) (by omega) (by omega)]
      exact r4
    · rw [ws 67 (by omega), v1 67 (by omega) (by omega) (by omega) (by omega) (by omega)]
      exact r5
    · rw [gs_ne (by omega)]
      exact c3
    · rw [gs_ne (by omega), c4, bV 215 (by omega) (by omega), bV 214 (by omega) (by omega), vA 215 (by omega) (by omega) (by omega) (by omega) (by omega) (by omega), vA 214 (by omega) (by omega) (by omega) (by omega) (by omega) (by omega)]
    · rw [ws 201 (by omega), vA 201 (by omega) (by omega) (by omega) (by omega) (by omega) (by omega)]
      exact u3
    · rw [gs_ne (by omega), c2 6 (by omega), b13 6 (by omega) (by omega) (by omega)]
    · rw [ws 212 (by omega), vV 212 (by omega) (by omega) (by omega) (by omega) (by omega) (by omega)]
    · rw [gs_ne (by omega), c1 217 (by omega) (by omega), bV 217 (by omega) (by omega), vV 217 (by omega) (by omega) (by omega) (by omega) (by omega) (by omega)]
    · rw [ws 208 (by omega), vA 208 (by omega) (by omega) (by omega) (by omega) (by omega) (by omega), fA 208 (by omega) (by omega) (by omega) (by omega) (by omega)]
