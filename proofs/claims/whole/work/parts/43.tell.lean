theorem ok_tell {V : gV} (h : gInv V) (a : Int32) : ∃ j, j < 4 ∧ okI (PX8_tell j (69 + 33 * j) a V) (MX8_tell j (69 + 33 * j) a V) (PX9_tell a) (MX9_tell a) := by
  have h' := h
  obtain ⟨hr, hs, ⟨hn, fr, hh⟩, tl, ht⟩ := h
  refine ⟨fr, hh.2.1, ?_⟩
  have hr' := hr
  obtain ⟨nw, np, kp, d, lim, st, ln, wt, lt, g1, g2, g3, g4', g5⟩ := hr'
  have w2 : V 2 0 = nI nw := g1.2.1
  have w3 : V 214 0 = nI nw := g1.2.2.1
  have hnw := g1.1
  unfold PX8_tell MX8_tell
  rcases has_nat (x := a) (n := nw) (by omega) with ca | ⟨ca, w, hw, ea⟩
  · have c8 : MX7_has a V = 0 := (hasW w2).trans ca
    have c9 : MX9_isWord a V = 0 := (isW w3).trans ca
    refine err_ok h' (r := -1) (by rw [if_pos c8]) (fun q => absurd c8 q) ?_ ?_
    · unfold PX9_tell; exact fun q => absurd c9 q
    · unfold MX9_tell; rw [if_pos c9]
  have c8 : ¬ MX7_has a V = 0 := fun q => one_ne (ca.symm.trans ((hasW w2).symm.trans q))
  have c9 : ∀ V1 : gV, V1 214 = V 214 → ¬ MX9_isWord a V1 = 0 := fun V1 e q => one_ne (ca.symm.trans ((isW (by rw [e, w3])).symm.trans q))
  rcases g5 with g5 | ⟨z, t, ms, gd, g5⟩
  · have hrun : V 24 0 = 0 := g5.1
    have r9 := runs_off (V := V) rfl g5.2.1
    refine err_ok h' (r := -2) (by rw [if_neg c8, if_pos hrun]) (fun _ q => absurd hrun q) ?_ ?_
    · unfold PX9_tell; exact fun _ q => absurd r9 q
    · unfold MX9_tell; rw [if_neg (c9 V rfl), if_pos r9]
  · have hrun : ¬ V 24 0 = 0 := by rw [show V 24 0 = 1 from g5.1]; exact one_ne
    obtain ⟨rP, r1, r2, r3, r4, r5⟩ := rec_ok hr hh
    have hR : ∀ c j, c < 33 → MX1_record fr (69 + 33 * fr) V (1 + c) j = V (1 + c) j := fun c j hc => by rw [r1 (1 + c) (by omega)]
    -- the parts, over the record
    have G1 : rWd (fun c => MX1_record fr (69 + 33 * fr) V (1 + c)) (V 214) nw ln wt lt := g1.congr (fun c j s => hR c j (by omega)) (fun _ _ => rfl)
    have G2 : rBn (fun c => MX1_record fr (69 + 33 * fr) V (1 + c)) (V 214) np := g2.congr (fun c j s => hR c j (by omega)) (fun _ _ => rfl)
    have G3 : rPs (fun c => MX1_record fr (69 + 33 * fr) V (1 + c)) (V 214) kp := g3.congr (fun c j s => hR c j (by omega)) (fun _ _ => rfl)
    have G4 : rNm (fun c => MX1_record fr (69 + 33 * fr) V (1 + c)) (V 214) np d lim st := g4'.congr (fun j s => hR 0 j (by omega)) (fun _ _ => rfl)
    have G5 : rOn (fun c => MX1_record fr (69 + 33 * fr) V (1 + c)) (V 214) nw np lim ln lt z t ms gd := g5.congr (fun j s => hR 23 j (by omega)) (fun _ _ => rfl)
    obtain ⟨o1, o2, o3, o4, o5, o6, ⟨o7, o7'⟩, o8, ⟨o9, o9'⟩, o10, ⟨o11, o11'⟩, ⟨o12, o12'⟩, o13, o14⟩ := G5
    have o7 : MX1_record fr (69 + 33 * fr) V 24 1 = nI z := o7
    by_cases hwz : a = nI z
    · -- told right
      have fin : ∀ V1 : gV, V1 = MX5_winRound (MX1_record fr (69 + 33 * fr) V) → okI (¬MX7_has a V = 0 → ¬V 24 0 = 0 → PX1_record fr (69 + 33 * fr) V ∧ PX8_tell_43 fr (69 + 33 * fr) a (MX1_record fr (69 + 33 * fr) V)) (if MX7_has a V = 0 then (-1, V) else if V 24 0 = 0 then (-2, V) else BX8_tell_43 fr (69 + 33 * fr) a (MX1_record fr (69 + 33 * fr) V)) (PX9_tell a) (MX9_tell a) := by
        intro V1 eV
        have hc0 : ∀ x, x = 0 ∨ 34 ≤ x → V1 x = MX1_record fr (69 + 33 * fr) V x := by
          intro x hx
          rw [eV]
          exact (win_ok (W := gs V 214 (V 214)) (by rw [gs_at]; exact G1) (by rw [gs_at]; exact G2) (by rw [gs_at]; exact G3) (by rw [gs_at]; exact G4) (by rw [gs_at]; exact o7.trans o7'.symm) (by rw [gs_at]; exact o8) o9 o4 (by rw [gs_at]; exact o10) (by rw [gs_at]; exact o11.trans o11'.symm)).2.2.1 x hx
        obtain ⟨k0, k1, k2⟩ := chg_ok (V1 := V1) hr hh (fun x hx => hc0 x (by omega))
        obtain ⟨q1, q2, q3, m2, q4, q5⟩ := win_ok (V := MX1_record fr (69 + 33 * fr) V) (W := MX9_changes V1) (by rw [k1]; exact G1) (by rw [k1]; exact G2) (by rw [k1]; exact G3) (by rw [k1]; exact G4) (by rw [k1]; exact o7.trans o7'.symm) (by rw [k1]; exact o8) o9 o4 (by rw [k1]; exact o10) (by rw [k1]; exact o11.trans o11'.symm)
        refine mut_ok hr hs hh ht V1 m2 (r := 1) (fun x hx _ _ _ _ => hc0 x (by omega)) (by rw [hc0 0 (by omega), r1 0 (by omega)]) ?_ ?_ ?_ ?_ (by rw [eV]; exact q5)
        · unfold BX8_tell_43 BX8_tell_51 MX5_tellWord
          rw [if_neg c8, if_neg hrun, o7, if_pos hwz, eV]
          exact if_neg one_ne
        · intro _ _
          refine ⟨rP, ?_⟩
          unfold PX8_tell_43 PX5_tellWord
          rw [o7]
          exact ⟨fun _ => q1, fun q => absurd hwz q⟩
        · unfold PX9_tell PX9_tell_24 PX9_tell_40
          rw [pc3, pc13, k1, o7', o9']
          exact fun _ _ => ⟨k0, fun _ => ⟨fun q => absurd q one_ne, fun _ => q2⟩, fun q => absurd hwz q⟩
        · unfold MX9_tell BX9_tell_24 BX9_tell_40 BX9_tell_62
          rw [if_neg (c9 V1 k2), if_neg (runs_on k2 o2), pc3, pc13, k1, o7', o9', if_pos hwz, if_neg one_ne, if_neg one_ne, q4]
      exact fin _ rfl
    · have fin : ∀ V1 : gV, V1 = MX5_countMiss (MX1_record fr (69 + 33 * fr) V) → okI (¬MX7_has a V = 0 → ¬V 24 0 = 0 → PX1_record fr (69 + 33 * fr) V ∧ PX8_tell_43 fr (69 + 33 * fr) a (MX1_record fr (69 + 33 * fr) V)) (if MX7_has a V = 0 then (-1, V) else if V 24 0 = 0 then (-2, V) else BX8_tell_43 fr (69 + 33 * fr) a (MX1_record fr (69 + 33 * fr) V)) (PX9_tell a) (MX9_tell a) := by
        intro V1 eV
        have hc0 : ∀ x, x = 0 ∨ 34 ≤ x → V1 x = MX1_record fr (69 + 33 * fr) V x := by
          intro x hx
          rw [eV]
          exact (miss_ok (W := gs V 214 (V 214)) (by rw [gs_at]; exact G1) (by rw [gs_at]; exact G2) (by rw [gs_at]; exact G3) (by rw [gs_at]; exact G4) (by rw [gs_at]; exact ⟨o1, o2, o3, o4, o5, o6, ⟨o7, o7'⟩, o8, ⟨o9, o9'⟩, o10, ⟨o11, o11'⟩, ⟨o12, o12'⟩, o13, o14⟩)).2.2.1 x hx
        obtain ⟨k0, k1, k2⟩ := chg_ok (V1 := V1) hr hh (fun x hx => hc0 x (by omega))
        obtain ⟨q1, q2, q3, m2, q4, q5⟩ := miss_ok (V := MX1_record fr (69 + 33 * fr) V) (W := MX9_changes V1) (by rw [k1]; exact G1) (by rw [k1]; exact G2) (by rw [k1]; exact G3) (by rw [k1]; exact G4) (by rw [k1]; exact ⟨o1, o2, o3, o4, o5, o6, ⟨o7, o7'⟩, o8, ⟨o9, o9'⟩, o10, ⟨o11, o11'⟩, ⟨o12, o12'⟩, o13, o14⟩)
        have z0 : (0 : Int32) = 0 := rfl
        refine mut_ok hr hs hh ht V1 m2 (r := 0) (fun x hx _ _ _ _ => hc0 x (by omega)) (by rw [hc0 0 (by omega), r1 0 (by omega)]) ?_ ?_ ?_ ?_ (by rw [eV]; exact q5)
        · unfold BX8_tell_43 BX8_tell_51 MX5_tellWord
          rw [if_neg c8, if_neg hrun, o7, if_neg hwz, eV]
          exact if_pos rfl
        · intro _ _
          refine ⟨rP, ?_⟩
          unfold PX8_tell_43 PX5_tellWord
          rw [o7]
          exact ⟨fun q => absurd q hwz, fun _ => q1⟩
        · unfold PX9_tell PX9_tell_24 PX9_tell_40
          rw [pc3, pc13, k1, o7']
          exact fun _ _ => ⟨k0, fun q => absurd q hwz, fun _ => ⟨fun _ => q2, fun q => absurd z0 q⟩⟩
        · unfold MX9_tell BX9_tell_24 BX9_tell_40 BX9_tell_62
          rw [if_neg (c9 V1 k2), if_neg (runs_on k2 o2), pc13, k1, o7', if_neg hwz, if_pos z0, if_pos z0, q4]
      exact fin _ rfl
