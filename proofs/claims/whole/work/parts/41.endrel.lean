theorem cEnd_row {V : gV} {kp np : Nat} {a : Int32} {x : Nat} (h : x ≠ 21 ∧ x ≠ 24 ∧ x ≠ 25 ∧ x ≠ 27 ∧ x ≠ 29 ∧ x ≠ 31 ∧ x ≠ 33) : cEnd V kp np a x = V x := by
  unfold cEnd
  rw [gu_row h.2.1, gs_ne h.1, g4_ne ⟨h.2.2.2.1, h.2.2.2.2.1, h.2.2.2.2.2.1, h.2.2.2.2.2.2⟩, gu_row h.2.2.1]
/-- behind the end of a round the two are in relation, whoever won -/
theorem end_rel {V : gV} {m : Nat → Int32} {nw np kp d lim st : Nat} {ln wt : Nat → Nat} {lt : Nat → Nat → Nat} (g1 : rWd (fun c => V (1 + c)) m nw ln wt lt) (g2 : rBn (fun c => V (1 + c)) m np) (g3 : rPs (fun c => V (1 + c)) m kp) (g4' : rNm (fun c => V (1 + c)) m np d lim st) (h1 : V 24 1 = m 13) (h2 : V 24 2 = m 14) (h5 : V 24 5 = m 5) (a : Int32) : gRel (fun c => cEnd V kp np a (1 + c)) (mEnd np kp a m) := by
  have hn := g2.1
  obtain ⟨q1, q2, q3, q4⟩ := g3
  have rc : ∀ x, (x ≠ 21 ∧ x ≠ 24 ∧ x ≠ 25 ∧ x ≠ 27 ∧ x ≠ 29 ∧ x ≠ 31 ∧ x ≠ 33) → ∀ j, cEnd V kp np a x j = V x j := fun x h j => by rw [cEnd_row h]
  have rm : ∀ j, j ≠ 2 → j ≠ 15 → j < 222 → (j < 192 ∨ (j - 192) % 6 ≠ 4) → mEnd np kp a m j = m j := fun j a1 a2 a3 a4 => by
    unfold mEnd
    rw [if_neg a1, if_neg a2, if_neg (by omega), if_neg (by omega), if_neg (by omega), if_neg (by omega), if_neg (by omega)]
    exact hm_lo (by omega) hn
  have rh : ∀ p, p < np → mEnd np kp a m (192 + 6 * p + 4) = 26 := fun p hp => by
    unfold mEnd hm
    rw [if_neg (by omega), if_neg (by omega), if_neg (by omega), if_neg (by omega), if_neg (by omega), if_neg (by omega), if_neg (by omega), if_pos (by omega)]
  have r20 : ∀ p, p < np → cEnd V kp np a 21 p = 26 := fun p hp => by
    unfold cEnd
    rw [gu_row (by omega), gs_at]
    exact if_pos hp
  refine ⟨nw, np, (if kp < 6 then kp + 1 else 6), d, lim, st, ln, wt, lt, g1.congr (fun c j s => rc (1 + c) (by omega) j) (fun j s => rm j (by omega) (by omega) (by omega) (by omega)), ?_, ?_, g4'.congr (fun j s => rc 1 (by omega) j) (fun j s => rm j (by omega) (by omega) (by omega) (by omega)), Or.inl ⟨?_, ?_, rh⟩⟩
  · obtain ⟨p1, p2, p3, p4, p5⟩ := g2
    refine ⟨p1, (rc 11 (by omega) 0).trans p2, (rm 1 (by omega) (by omega) (by omega) (by omega)).trans p3, fun p hp => ?_, fun p hp1 hp2 => ?_⟩
    · obtain ⟨u1, u2, u3, u4, u5, u6⟩ := p4 p hp
      refine ⟨(rc 13 (by omega) p).trans (u1.trans (rm _ (by omega) (by omega) (by omega) (by omega)).symm), (rc 15 (by omega) p).trans (u2.trans (rm _ (by omega) (by omega) (by omega) (by omega)).symm), (rc 17 (by omega) p).trans (u3.trans (rm _ (by omega) (by omega) (by omega) (by omega)).symm), (rc 19 (by omega) p).trans (u4.trans (rm _ (by omega) (by omega) (by omega) (by omega)).symm), ?_, Or.inl (rh p hp)⟩
      show cEnd V kp np a 21 p = _
      rw [r20 p hp, rh p hp]
    · obtain ⟨u1, u2, u3⟩ := p5 p hp1 hp2
      exact ⟨(rm _ (by omega) (by omega) (by omega) (by omega)).trans u1, (rm _ (by omega) (by omega) (by omega) (by omega)).trans u2, (rm _ (by omega) (by omega) (by omega) (by omega)).trans u3⟩
  · have c25 : cEnd V kp np a 25 0 = nI (if kp < 6 then kp + 1 else 6) := by
      unfold cEnd
      rw [gu_row (by omega), gs_ne (by omega), g4_ne (by omega), gu_at]
    have m15 : mEnd np kp a m 15 = nI (if kp < 6 then kp + 1 else 6) := by
      unfold mEnd
      exact (if_neg (by omega)).trans (if_pos rfl)
    have hk : (if kp < 6 then kp + 1 else 6) ≤ 6 ∧ (if kp < 6 then kp + 1 else 6) ≤ kp + 1 := by split <;> omega
    have c27 : cEnd V kp np a 27 = upd (sh (V 27) (if kp < 6 then kp + 1 else 6) 0) 0 (V 24 1) := by
      unfold cEnd
      rw [gu_row (by omega), gs_ne (by omega), g4_27]
    have c29 : cEnd V kp np a 29 = upd (sh (V 29) (if kp < 6 then kp + 1 else 6) 0) 0 a := by
      unfold cEnd
      rw [gu_row (by omega), gs_ne (by omega), g4_29]
    have c31 : cEnd V kp np a 31 = upd (sh (V 31) (if kp < 6 then kp + 1 else 6) 0) 0 (V 24 5) := by
      unfold cEnd
      rw [gu_row (by omega), gs_ne (by omega), g4_31]
    have c33 : cEnd V kp np a 33 = upd (sh (V 33) (if kp < 6 then kp + 1 else 6) 0) 0 (V 24 2) := by
      unfold cEnd
      rw [gu_row (by omega), gs_ne (by omega), g4_33]
    refine ⟨hk.1, c25, m15, fun i hi => ?_⟩
    show cEnd V kp np a 27 i = _ ∧ cEnd V kp np a 29 i = _ ∧ cEnd V kp np a 31 i = _ ∧ cEnd V kp np a 33 i = _
    rw [c27, c29, c31, c33]
    generalize (if kp < 6 then kp + 1 else 6) = n at hk hi
    by_cases h0 : i = 0
    · subst h0
      rw [upd_at, upd_at, upd_at, upd_at]
      refine ⟨h1.trans ?_, ?_, h5.trans ?_, h2.trans ?_⟩
      · exact ((if_neg (show ¬ 222 + 4 * 0 = 2 by omega)).trans ((if_neg (by omega)).trans (if_pos rfl))).symm
      · exact ((if_neg (show ¬ 222 + 4 * 0 + 1 = 2 by omega)).trans ((if_neg (by omega)).trans ((if_neg (by omega)).trans (if_pos rfl)))).symm
      · exact ((if_neg (show ¬ 222 + 4 * 0 + 2 = 2 by omega)).trans ((if_neg (by omega)).trans ((if_neg (by omega)).trans ((if_neg (by omega)).trans (if_pos rfl))))).symm
      · exact ((if_neg (show ¬ 222 + 4 * 0 + 3 = 2 by omega)).trans ((if_neg (by omega)).trans ((if_neg (by omega)).trans ((if_neg (by omega)).trans ((if_neg (by omega)).trans (if_pos rfl)))))).symm
    · obtain ⟨k, rfl⟩ : ∃ k, i = k + 1 := ⟨i - 1, by omega⟩
      obtain ⟨w1, w2, w3, w4⟩ := q4 k (by omega)
      have es : ∀ f : Nat → Int32, ∀ x, upd (sh f n 0) 0 x (k + 1) = f k := fun f x => by
        rw [upd_ne (by omega)]
        exact if_pos ⟨by omega, hi⟩
      have em : ∀ c, c < 4 → mEnd np kp a m (222 + 4 * (k + 1) + c) = m (222 + 4 * k + c) := fun c hc => by
        unfold mEnd
        rw [if_neg (by omega), if_neg (by omega), if_neg (by omega), if_neg (by omega), if_neg (by omega), if_neg (by omega), if_pos (by omega)]
        exact congrArg m (by omega)
      rw [es, es, es, es]
      exact ⟨w1.trans (em 0 (by omega)).symm, w2.trans (em 1 (by omega)).symm, w3.trans (em 2 (by omega)).symm, w4.trans (em 3 (by omega)).symm⟩
  · show cEnd V kp np a 24 0 = 0
    exact gu_at
  · exact if_pos rfl
/-- a win -/
theorem win_ok {V W : gV} {nw np kp d lim st t : Nat} {ln wt : Nat → Nat} {lt : Nat → Nat → Nat} (g1 : rWd (fun c => V (1 + c)) (W 214) nw ln wt lt) (g2 : rBn (fun c => V (1 + c)) (W 214) np) (g3 : rPs (fun c => V (1 + c)) (W 214) kp) (g4' : rNm (fun c => V (1 + c)) (W 214) np d lim st) (h1 : V 24 1 = W 214 13) (h2 : V 24 2 = W 214 14) (h3 : V 24 3 = nI t) (ht : t < np) (h4 : V 24 4 = W 214 4) (h5 : V 24 5 = W 214 5) :
    PX5_winRound V ∧ PX9_ends (nI t) W ∧ (∀ x, x = 0 ∨ 34 ≤ x → MX5_winRound V x = V x) ∧ ∃ m2, MX9_ends (nI t) W = gs W 214 m2 ∧ gRel (fun c => MX5_winRound V (1 + c)) m2 := by
  have hn := g2.1
  have hk := g3.1
  obtain ⟨p1, p2, p3, p4, p5⟩ := g2
  have p3 : W 214 1 = nI np := p3
  have p2 : V 11 0 = nI np := p2
  have ht5 : t < 5 := by omega
  obtain ⟨k1, k2⟩ := ends_win (V := W) hn hk p3 g3.2.2.1 ht
  obtain ⟨V1, eV⟩ : ∃ v, v = gu (gu V 13 t (V 13 t + V 24 4)) 15 t (V 15 t + 1) := ⟨_, rfl⟩
  have f : ∀ x j, (x ≠ 13 ∨ j ≠ t) → (x ≠ 15 ∨ j ≠ t) → V1 x j = V x j := fun x j a1 a2 => by rw [eV, gu_eq, if_neg (by omega), gu_eq, if_neg (by omega)]
  have fr : ∀ x, x ≠ 13 → x ≠ 15 → V1 x = V x := fun x a1 a2 => by rw [eV, gu_row a2, gu_row a1]
  have eW : BX5_winRound_24 (MX4_add 12 (V 24 3) (V 24 4) V) = BX5_winRound_42 V1 ∧ (PX5_winRound V ↔ PX5_winRound_42 V1) := by
    unfold PX5_winRound PX5_winRound_24 BX5_winRound_24
    have e1 : MX4_add 12 (V 24 3) (V 24 4) V = gu V 13 t (V 13 t + V 24 4) := by rw [h3]; exact pu_add (k := 12) (n := 5) kd13 ht5
    have e2 : gu V 13 t (V 13 t + V 24 4) 24 3 = nI t := by rw [gu_row (by omega), h3]
    have e3 : MX4_add 14 (nI t) 1 (gu V 13 t (V 13 t + V 24 4)) = V1 := by
      rw [eV]
      refine (pu_add (k := 14) (n := 5) kd15 ht5).trans ?_
      show gu _ 15 t (gu V 13 t (V 13 t + V 24 4) 15 t + 1) = _
      rw [gu_row (show 15 ≠ 13 by omega)]
    rw [e1, e2, e3]
    exact ⟨rfl, Iff.rfl⟩
  obtain ⟨c1, c2⟩ := cend_ok (V := V1) hk hn (by rw [fr 25 (by omega) (by omega)]; exact g3.2.1) (by rw [fr 11 (by omega) (by omega)]; exact p2) (nI t)
  have e24 : V1 24 3 = nI t := by rw [fr 24 (by omega) (by omega), h3]
  have eM : MX5_winRound V = cEnd V1 kp np (nI t) := by
    unfold MX5_winRound
    rw [eW.1]
    unfold BX5_winRound_42
    rw [e24, c2]
  refine ⟨eW.2.mpr (by unfold PX5_winRound_42; rw [e24]; exact c1), k1, fun x hx => ?_, _, k2, ?_⟩
  · rw [eM, cEnd_row (by omega), fr x (by omega) (by omega)]
  · rw [eM]
    have hmm : ∀ j, j ≠ 192 + 6 * t → j ≠ 192 + 6 * t + 1 → upd (upd (W 214) (192 + 6 * t) (W 214 (192 + 6 * t) + W 214 4)) (192 + 6 * t + 1) (W 214 (192 + 6 * t + 1) + 1) j = W 214 j := fun j a1 a2 => by rw [upd_ne a2, upd_ne a1]
    refine end_rel (nw := nw) (d := d) (lim := lim) (st := st) (ln := ln) (wt := wt) (lt := lt) (g1.congr (fun c j s => f (1 + c) j (by omega) (by omega)) (fun j s => hmm j (by omega) (by omega))) ⟨p1, (f 11 0 (by omega) (by omega)).trans p2, (hmm 1 (by omega) (by omega)).trans p3, fun p hp => ?_, fun p hp1 hp2 => ?_⟩ (g3.congr (fun c j s => f (1 + c) j (by omega) (by omega)) (fun j s => hmm j (by omega) (by omega))) (g4'.congr (fun j s => f 1 j (by omega) (by omega)) (fun j s => hmm j (by omega) (by omega))) ?_ ?_ ?_ (nI t)
    · obtain ⟨u1, u2, u3, u4, u5, u6⟩ := p4 p hp
      have u1 : V 13 p = W 214 (192 + 6 * p) := u1
      have u2 : V 15 p = W 214 (192 + 6 * p + 1) := u2
      have x2 := hmm (192 + 6 * p + 2) (by omega) (by omega)
      have x3 := hmm (192 + 6 * p + 3) (by omega) (by omega)
      have x4 := hmm (192 + 6 * p + 4) (by omega) (by omega)
      have x5 := hmm (192 + 6 * p + 5) (by omega) (by omega)
      rw [x2, x3, x4, x5]
      refine ⟨?_, ?_, (f 17 p (by omega) (by omega)).trans u3, (f 19 p (by omega) (by omega)).trans u4, (f 21 p (by omega) (by omega)).trans u5, ?_⟩
      · show V1 13 p = _
        by_cases e : p = t
        · subst e
          rw [upd_ne (by omega), upd_at, eV, gu_row (by omega), gu_at, u1, h4]
        · rw [hmm _ (by omega) (by omega)]
          exact (f 13 p (by omega) (by omega)).trans u1
      · show V1 15 p = _
        by_cases e : p = t
        · subst e
          rw [upd_at, eV, gu_at, u2]
        · rw [hmm _ (by omega) (by omega)]
          exact (f 15 p (by omega) (by omega)).trans u2
      · rcases u6 with u6 | ⟨u6, u7⟩
        · exact Or.inl u6
        · exact Or.inr ⟨(f 23 p (by omega) (by omega)).trans u6, u7⟩
    · obtain ⟨u1, u2, u3⟩ := p5 p hp1 hp2
      exact ⟨(hmm _ (by omega) (by omega)).trans u1, (hmm _ (by omega) (by omega)).trans u2, (hmm _ (by omega) (by omega)).trans u3⟩
    · rw [fr 24 (by omega) (by omega), hmm 13 (by omega) (by omega), h1]
    · rw [fr 24 (by omega) (by omega), hmm 14 (by omega) (by omega), h2]
    · rw [fr 24 (by omega) (by omega), hmm 5 (by omega) (by omega), h5]
