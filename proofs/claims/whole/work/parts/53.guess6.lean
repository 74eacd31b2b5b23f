theorem ok_guess {V : gV} (h : gInv V) (a : Int32) : ∃ j, j < 4 ∧ okI (PX8_guess j (69 + 33 * j) a V) (MX8_guess j (69 + 33 * j) a V) (PX9_guess a) (MX9_guess a) := by
  have h' := h
  obtain ⟨hr, hs, ⟨hn, fr, hh⟩, tl, ht⟩ := h
  refine ⟨fr, hh.2.1, ?_⟩
  have hr' := hr
  obtain ⟨nw, np, kp, d, lim, st, ln, wt, lt, g1, g2, g3, g4', g5⟩ := hr'
  unfold PX8_guess MX8_guess
  rcases in_nat (x := a) (a := 0) (b := 25) (V := V) (by omega) (by omega) with ca | ⟨ca, c, -, hc, ea⟩
  · have c8 : MX8_isLetter a V = 0 := ca
    refine err_ok h' (r := -1) (by rw [if_pos c8]) (fun q => absurd c8 q) ?_ ?_
    · unfold PX9_guess; exact fun q => absurd ca q
    · unfold MX9_guess; rw [if_pos (show MX9_in a 0 25 V = 0 from ca)]
  have c8 : ¬ MX8_isLetter a V = 0 := fun q => one_ne (ca.symm.trans q)
  have c9 : ∀ V1 : gV, ¬ MX9_in a 0 25 V1 = 0 := fun V1 q => one_ne (ca.symm.trans q)
  rcases g5 with g5 | ⟨z, t, ms, gd, g5⟩
  · have hrun : V 24 0 = 0 := g5.1
    have r9 := runs_off (V := V) rfl g5.2.1
    have c3 : MX3_takes a V = 0 := by unfold MX3_takes; rw [if_pos hrun]
    refine err_ok h' (r := -2) (by rw [if_neg c8, if_pos c3]) (fun _ q => absurd c3 q) ?_ ?_
    · unfold PX9_guess; exact fun _ q => absurd r9 q
    · unfold MX9_guess; rw [if_neg (c9 V), if_pos r9]
  have hgd : gd < 2 ^ 26 := g5.2.2.2.2.2.1
  have o12 : V 24 6 = nI gd := g5.2.2.2.2.2.2.2.2.2.2.2.1.1
  have o12' : V 214 6 = nI gd := g5.2.2.2.2.2.2.2.2.2.2.2.1.2
  have o2 : V 214 2 = 1 := g5.2.1
  have hrun : ¬ V 24 0 = 0 := by rw [show V 24 0 = 1 from g5.1]; exact one_ne
  subst ea
  have et : MX3_takes (nI c) V = if gd.testBit c = true then 0 else 1 := by
    unfold MX3_takes
    rw [if_neg hrun, o12, pu_hold (by omega) (by omega)]
    cases gd.testBit c <;> rfl
  by_cases hb : gd.testBit c = true
  · have c3 : MX3_takes (nI c) V = 0 := by rw [et, if_pos hb]
    have c4 : ((V 214 ((6 : Int32)).toNatClampNeg >>> (nI c &&& 31)) &&& 1) = 1 := by rw [pc6, o12']; exact (pu_shr (by omega) (by omega)).mpr hb
    refine err_ok h' (r := -2) (by rw [if_neg c8, if_pos c3]) (fun _ q => absurd c3 q) ?_ ?_
    · unfold PX9_guess; exact fun _ _ q => absurd c4 q
    · unfold MX9_guess; rw [if_neg (c9 V), if_neg (runs_on rfl o2), if_pos c4]
  have c3 : ¬ MX3_takes (nI c) V = 0 := by rw [et, if_neg hb]; exact one_ne
  obtain ⟨rP, r1, r2, r3, r4, r5⟩ := rec_ok hr hh
  have hR : ∀ c j, c < 33 → MX1_record fr (69 + 33 * fr) V (1 + c) j = V (1 + c) j := fun c j hc => by rw [r1 (1 + c) (by omega)]
  have G1 : rWd (fun c => MX1_record fr (69 + 33 * fr) V (1 + c)) (V 214) nw ln wt lt := g1.congr (fun c j s => hR c j (by omega)) (fun _ _ => rfl)
  have G2 : rBn (fun c => MX1_record fr (69 + 33 * fr) V (1 + c)) (V 214) np := g2.congr (fun c j s => hR c j (by omega)) (fun _ _ => rfl)
  have G3 : rPs (fun c => MX1_record fr (69 + 33 * fr) V (1 + c)) (V 214) kp := g3.congr (fun c j s => hR c j (by omega)) (fun _ _ => rfl)
  have G4 : rNm (fun c => MX1_record fr (69 + 33 * fr) V (1 + c)) (V 214) np d lim st := g4'.congr (fun j s => hR 0 j (by omega)) (fun _ _ => rfl)
  have G5 : rOn (fun c => MX1_record fr (69 + 33 * fr) V (1 + c)) (V 214) nw np lim ln lt z t ms gd := g5.congr (fun j s => hR 23 j (by omega)) (fun _ _ => rfl)
  rw [if_neg c8, if_neg c3]
  unfold BX8_guess_37 PX8_guess_37
  obtain ⟨V1, eV⟩ : ∃ v, v = (MX5_guessLetter (nI c) (MX1_record fr (69 + 33 * fr) V)).2 := ⟨_, rfl⟩
  have hc0 : ∀ x, x = 0 ∨ 34 ≤ x → V1 x = MX1_record fr (69 + 33 * fr) V x := by
    intro x hx
    rw [eV]
    exact (guess_ok (W := gs V 214 (V 214)) (by rw [gs_at]; exact G1) (by rw [gs_at]; exact G2) (by rw [gs_at]; exact G3) (by rw [gs_at]; exact G4) (by rw [gs_at]; exact G5) (by omega)).2.2.1 x hx
  obtain ⟨k0, k1, k2⟩ := chg_ok (V1 := V1) hr hh (fun x hx => hc0 x (by omega))
  obtain ⟨q1, q2, q3, r, m2, q4, q5, q6⟩ := guess_ok (c := c) (V := MX1_record fr (69 + 33 * fr) V) (W := MX9_changes V1) (by rw [k1]; exact G1) (by rw [k1]; exact G2) (by rw [k1]; exact G3) (by rw [k1]; exact G4) (by rw [k1]; exact G5) (by omega)
  have c4 : ¬ ((V1 214 ((6 : Int32)).toNatClampNeg >>> (nI c &&& 31)) &&& 1) = 1 := by
    rw [pc6, k2, o12']
    exact fun q => hb ((pu_shr (by omega) (by omega)).mp q)
  refine mut_ok hr hs hh ht V1 m2 (r := nI r) (fun x hx _ _ _ _ => hc0 x (by omega)) (by rw [hc0 0 (by omega), r1 0 (by omega)]) (by rw [q4, eV]) (fun _ _ => ⟨rP, q1⟩) ?_ ?_ (by rw [eV]; exact q6)
  · unfold PX9_guess
    exact fun _ _ _ => ⟨k0, q2⟩
  · unfold MX9_guess
    rw [if_neg (c9 V1), if_neg (runs_on k2 o2), if_neg c4, q5]
