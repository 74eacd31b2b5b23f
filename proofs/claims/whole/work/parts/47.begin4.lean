theorem ok_begin {V : gV} (h : gInv V) (a : Int32) : ∃ j, j < 4 ∧ okI (PX8_begin j (69 + 33 * j) a V) (MX8_begin j (69 + 33 * j) a V) (PX9_begin a) (MX9_begin a) := by
  have h' := h
  obtain ⟨hr, hs, ⟨hn, fr, hh⟩, tl, ht⟩ := h
  refine ⟨fr, hh.2.1, ?_⟩
  have hr' := hr
  obtain ⟨nw, np, kp, d, lim, st, ln, wt, lt, g1, g2, g3, g4', g5⟩ := hr'
  have w2 : V 2 0 = nI nw := g1.2.1
  have w3 : V 214 0 = nI nw := g1.2.2.1
  have hnw := g1.1
  have p1 := g2.1
  have p2 : V 11 0 = nI np := g2.2.1
  have p3 : V 214 1 = nI np := g2.2.2.1
  unfold PX8_begin MX8_begin
  rcases in_nat (x := a) (a := 1) (b := 50) (V := V) (by omega) (by omega) with cb | ⟨cb, s, hs1, hs2, ea⟩
  · have cb8 : MX8_isBetween a 1 50 V = 0 := cb
    have cb9 : MX9_in a 1 50 V = 0 := cb
    refine err_ok h' (r := -1) (by rw [if_pos cb8]) (fun q => absurd cb8 q) ?_ ?_
    · unfold PX9_begin; exact fun q => absurd cb9 q
    · unfold MX9_begin; rw [if_pos cb9]
  have cb8 : ¬ MX8_isBetween a 1 50 V = 0 := fun q => one_ne (cb.symm.trans q)
  have cb9 : ∀ V1 : gV, ¬ MX9_in a 1 50 V1 = 0 := fun _ => cb8
  rcases g5 with g5 | ⟨z, t, ms, gd, g5⟩
  · have hrun : V 24 0 = 0 := g5.1
    have r9 : ∀ V1 : gV, V1 214 = V 214 → MX9_runs V1 = 0 := fun V1 e => runs_off e g5.2.1
    by_cases h0w : nw = 0
    · have c8 : MX5_canBegin a V = 0 := by
        unfold MX5_canBegin
        rw [if_pos hrun, w2, h0w, if_pos (by decide)]
      have k8 : PX5_canBegin a V := by
        unfold PX5_canBegin
        rw [w2, h0w]
        exact fun _ q => absurd (by decide) q
      have e9 : V 214 0 = 0 := by rw [w3, h0w]; rfl
      refine err_ok h' (r := -2) (by rw [if_neg cb8, if_pos c8]) (fun _ => ⟨k8, fun q => absurd c8 q⟩) ?_ ?_
      · unfold PX9_begin; rw [pc0]; exact fun _ _ q => absurd e9 q
      · unfold MX9_begin; rw [if_neg (cb9 V), if_pos (r9 V rfl), pc0, if_pos e9]
    by_cases h0p : np = 0
    · have n2 : ¬ V 2 0 ≤ 0 := by rw [w2]; exact nI_nle (by omega) (by omega)
      have c8 : MX5_canBegin a V = 0 := by
        unfold MX5_canBegin
        rw [if_pos hrun, if_neg n2, p2, h0p, if_pos (by decide)]
      have k8 : PX5_canBegin a V := by
        unfold PX5_canBegin
        rw [p2, h0p]
        exact fun _ _ q => absurd (by decide) q
      have e9 : ¬ V 214 0 = 0 := by rw [w3]; exact nI_ne0 (by omega) (by omega)
      have e91 : V 214 1 = 0 := by rw [p3, h0p]; rfl
      refine err_ok h' (r := -2) (by rw [if_neg cb8, if_pos c8]) (fun _ => ⟨k8, fun q => absurd c8 q⟩) ?_ ?_
      · unfold PX9_begin; rw [pc1]; exact fun _ _ _ q => absurd e91 q
      · unfold MX9_begin; rw [if_neg (cb9 V), if_pos (r9 V rfl), pc0, if_neg e9, pc1, if_pos e91]
    have n2 : ¬ V 2 0 ≤ 0 := by rw [w2]; exact nI_nle (by omega) (by omega)
    have n11 : ¬ V 11 0 ≤ 0 := by rw [p2]; exact nI_nle (by omega) (by omega)
    have e90 : ¬ V 214 0 = 0 := by rw [w3]; exact nI_ne0 (by omega) (by omega)
    have e91 : ¬ V 214 1 = 0 := by rw [p3]; exact nI_ne0 (by omega) (by omega)
    obtain ⟨q8, r8⟩ := cpay_ok p1 p2 a
    have ep : allPay (V 13) a np = allPay (fun p => V 214 (192 + 6 * p)) a np := allPay_c (fun i hi => (g2.2.2.2.1 i hi).1)
    have k8 : PX5_canBegin a V := fun _ _ _ => q8
    cases hp : allPay (V 13) a np with
    | false =>
      rw [hp] at r8
      have r8 : MX0_canAllPay a V = 0 := r8
      have c8 : MX5_canBegin a V = 0 := by
        unfold MX5_canBegin
        rw [if_pos hrun, if_neg n2, if_neg n11, if_pos r8]
      obtain ⟨q9, s9⟩ := mpay_ok p1 p3 a
      rw [← ep, hp] at s9
      have s9 : MX9_canPay a V = 0 := s9
      refine err_ok h' (r := -2) (by rw [if_neg cb8, if_pos c8]) (fun _ => ⟨k8, fun q => absurd c8 q⟩) ?_ ?_
      · unfold PX9_begin; exact fun _ _ _ _ => ⟨q9, fun q => absurd s9 q⟩
      · unfold MX9_begin; rw [if_neg (cb9 V), if_pos (r9 V rfl), pc0, if_neg e90, pc1, if_neg e91, if_pos s9]
    | true =>
      rw [hp] at r8
      have r8 : MX0_canAllPay a V = 1 := r8
      have c8 : ¬ MX5_canBegin a V = 0 := by
        unfold MX5_canBegin
        rw [if_pos hrun, if_neg n2, if_neg n11, if_neg (by rw [r8]; exact one_ne)]
        exact one_ne
      obtain ⟨rP, r1, r2, r3, r4, r5⟩ := rec_ok hr hh
      have hR : ∀ c j, c < 33 → MX1_record fr (69 + 33 * fr) V (1 + c) j = V (1 + c) j := fun c j hc => by rw [r1 (1 + c) (by omega)]
      have G1 : rWd (fun c => MX1_record fr (69 + 33 * fr) V (1 + c)) (V 214) nw ln wt lt := g1.congr (fun c j q => hR c j (by omega)) (fun _ _ => rfl)
      have G2 : rBn (fun c => MX1_record fr (69 + 33 * fr) V (1 + c)) (V 214) np := g2.congr (fun c j q => hR c j (by omega)) (fun _ _ => rfl)
      have G3 : rPs (fun c => MX1_record fr (69 + 33 * fr) V (1 + c)) (V 214) kp := g3.congr (fun c j q => hR c j (by omega)) (fun _ _ => rfl)
      have G4 : rNm (fun c => MX1_record fr (69 + 33 * fr) V (1 + c)) (V 214) np d lim st := g4'.congr (fun j q => hR 0 j (by omega)) (fun _ _ => rfl)
      have G5 : rOff (fun c => MX1_record fr (69 + 33 * fr) V (1 + c)) (V 214) np := g5.congr p1 (hR 23 0 (by omega)) ⟨rfl, fun _ _ => rfl⟩
      obtain ⟨z, hz, s1, s2, bP, bM⟩ := begin_c (R := MX1_record fr (69 + 33 * fr) V) G1 (by omega) G2.2.1 p1 (by omega) G4.2.2.1.1 G4.2.2.1.2.1 G4.2.2.2.2.2.1 G4.2.2.2.2.1 a
      have hz16 : z < 16 := by omega
      obtain ⟨V1, eV⟩ : ∃ v, v = cBeg (MX1_record fr (69 + 33 * fr) V) (nxt d) (st % np) z np a := ⟨_, rfl⟩
      have cx : ∀ x, x ≠ 1 → x ≠ 8 → x ≠ 13 → x ≠ 24 → V1 x = MX1_record fr (69 + 33 * fr) V x := fun x b1 b2 b3 b4 => by
        rw [eV]
        unfold cBeg
        rw [gu_row b2, gs_ne b3, gu_row b4, gu_row b4, gu_row b4, gu_row b4, gu_row b4, gu_row b4, gu_row b4, gu_row b1, gu_row b1, gu_row b1]
      obtain ⟨k0, k1, k2⟩ := chg_ok (V1 := V1) hr hh (fun x hx => cx x (by omega) (by omega) (by omega) (by omega))
      obtain ⟨m0, m1⟩ := begin_m (W := MX9_changes V1) (by rw [k1]; exact g1) (by rw [k1]; exact p3) p1 (by omega) g4'.2.2.1.1 (by rw [k1]; exact g4'.2.2.1.2.2) (by rw [k1]; exact g4'.2.2.2.2.2.2) g4'.2.2.2.2.1 hz s1 s2 a
      obtain ⟨q9, s9⟩ := mpay_ok (V := V1) p1 (by rw [k2]; exact p3) a
      rw [k2, ← ep, hp] at s9
      have s9 : MX9_canPay a V1 = 1 := s9
      have z24 : V1 24 1 = nI z := by
        rw [eV]
        unfold cBeg
        rw [gu_row (by omega), gs_ne (by omega), gu_col (by omega), gu_col (by omega), gu_col (by omega), gu_col (by omega), gu_col (by omega), gu_at]
      refine mut_ok hr hs hh ht V1 (mk np a (mBeg0 (nxt d) (st % np) z np a (V 214))) (r := nI (ln z)) (fun x hx _ _ _ _ => cx x (by omega) (by omega) (by omega) (by omega)) (by rw [cx 0 (by omega) (by omega) (by omega) (by omega), r1 0 (by omega)]) ?_ ?_ ?_ ?_ ?_
      · unfold BX8_begin_37 BX8_begin_45
        rw [if_neg cb8, if_neg c8, bM, ← eV, z24, pu_at (k := 3) (n := 16) kd4 hz16]
        show (V1 4 z, V1) = _
        rw [cx 4 (by omega) (by omega) (by omega) (by omega), r1 4 (by omega)]
        exact congrArg (fun x => (x, V1)) (g1.2.2.2 z hz).2.1
      · exact fun _ => ⟨k8, fun _ => ⟨rP, bP⟩⟩
      · unfold PX9_begin
        exact fun _ _ _ _ => ⟨q9, fun _ => ⟨k0, m0⟩⟩
      · unfold MX9_begin
        rw [if_neg (cb9 V1), if_pos (r9 V1 k2), pc0, k2, if_neg e90, pc1, if_neg e91, if_neg (by rw [s9]; exact one_ne), m1, k1]
      · rw [eV]
        exact begin_rel G1 G2 G3 G4 G5 (by omega) hz (nxt_lt d) a
  · have hrun : ¬ V 24 0 = 0 := by rw [show V 24 0 = 1 from g5.1]; exact one_ne
    have r9 := runs_on (V := V) rfl g5.2.1
    have c8 : MX5_canBegin a V = 0 := by unfold MX5_canBegin; rw [if_neg hrun]
    refine err_ok h' (r := -2) (by rw [if_neg cb8, if_pos c8]) (fun _ => ⟨fun q => absurd q hrun, fun q => absurd c8 q⟩) ?_ ?_
    · unfold PX9_begin; exact fun _ q => absurd q r9
    · unfold MX9_begin; rw [if_neg (cb9 V), if_neg r9]
