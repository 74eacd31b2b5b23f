theorem cn_pos {f x : Nat} (h : x ≠ 0) (hx : x < 2 ^ f) : 0 < cn f x := by
  rw [cn_low f x h hx]
  omega
theorem cn_up {x : Nat} (h : x < 2 ^ 16) {V : gV} : MX9_ones (nI x) V = nI (cn 16 x) ∧ PX9_ones (nI x) V := ⟨(mw_ones (V := V) (F := 16) h (by omega)).2, (mw_ones (V := V) (F := 16) h (by omega)).1⟩
theorem guess_go {V W : gV} {nw np kp d lim st z t ms gd c q : Nat} {fl : Int32} {ln wt : Nat → Nat} {lt : Nat → Nat → Nat} (g1 : rWd (fun c => V (1 + c)) (W 214) nw ln wt lt) (g2 : rBn (fun c => V (1 + c)) (W 214) np) (g3 : rPs (fun c => V (1 + c)) (W 214) kp) (g4' : rNm (fun c => V (1 + c)) (W 214) np d lim st) (g5 : rOn (fun c => V (1 + c)) (W 214) nw np lim ln lt z t ms gd) (hc : c < 26) (hq : q < np) (hfl : (fl = 0 ∧ q = t) ∨ (¬ fl = 0 ∧ V 23 t = nI q ∧ W 214 (192 + 6 * t + 5) = nI q)) :
    PX5_guessLetter_28 (nI c) (nI t) fl V ∧ PX9_guess_80 (nI c) (nI (sPl ln lt z c)) (nI t) fl W ∧ (∀ x, x = 0 ∨ 34 ≤ x → (BX5_guessLetter_28 (nI c) (nI t) fl V).2 x = V x) ∧ ∃ r m2, (BX5_guessLetter_28 (nI c) (nI t) fl V).1 = nI r ∧ BX9_guess_80 (nI c) (nI (sPl ln lt z c)) (nI t) fl W = (nI r, gs W 214 m2) ∧ gRel (fun x => (BX5_guessLetter_28 (nI c) (nI t) fl V).2 (1 + x)) m2 := by
  have hn := g2.1
  have g5' := g5
  obtain ⟨o1, o2, o3, o4, o5, o6, ⟨o7, o7'⟩, o8, ⟨o9, o9'⟩, o10, ⟨o11, o11'⟩, ⟨o12, o12'⟩, o13, o14⟩ := g5'
  have o1 : V 24 0 = 1 := o1
  have o7 : V 24 1 = nI z := o7
  have o8 : V 24 2 = W 214 14 := o8
  have o9 : V 24 3 = nI t := o9
  have o10 : V 24 4 = W 214 4 := o10
  have o11 : V 24 5 = nI ms := o11
  have o12 : V 24 6 = nI gd := o12
  have ht5 : t < 5 := by omega
  have hgd : gd ||| 2 ^ c < 2 ^ 26 := Nat.or_lt_two_pow o6 (Nat.pow_lt_pow_right (by omega) hc)
  obtain ⟨hL1, hL2⟩ := (g1.2.2.2 z o3).1
  have hpl : sPl ln lt z c < 2 ^ 16 := Nat.lt_of_lt_of_le (sOr_lt _ _) (Nat.pow_le_pow_right (by omega) (by omega))
  have hf : ∀ k, (gd ||| 2 ^ c).testBit (lt z k) = (gd.testBit (lt z k) || decide (lt z k = c)) := fun k => by
    rw [Nat.testBit_or, Nat.testBit_two_pow]
    congr 1
    exact decide_eq_decide.mpr ⟨fun h => h.symm, fun h => h.symm⟩
  have hop : sOr (fun k => gd.testBit (lt z k)) (ln z) ||| sPl ln lt z c = sOr (fun k => (gd ||| 2 ^ c).testBit (lt z k)) (ln z) := by
    unfold sPl
    rw [sOr_or]
    exact sOr_congr (fun k _ => (hf k).symm)
  -- hint away, letter in
  obtain ⟨V1, eV⟩ : ∃ v, v = gu (gu V 21 t 26) 24 6 (nI (gd ||| 2 ^ c)) := ⟨_, rfl⟩
  obtain ⟨m1, em⟩ : ∃ v, v = upd (upd (W 214) (192 + 6 * t + 4) 26) 6 (nI (gd ||| 2 ^ c)) := ⟨_, rfl⟩
  have f : ∀ x j, (x ≠ 21 ∨ j ≠ t) → (x ≠ 24 ∨ j ≠ 6) → V1 x j = V x j := fun x j b1 b2 => by rw [eV, gu_eq, if_neg (by omega), gu_eq, if_neg (by omega)]
  have fr : ∀ x, x ≠ 21 → x ≠ 24 → V1 x = V x := fun x b1 b2 => by rw [eV, gu_row b2, gu_row b1]
  have f6 : V1 24 6 = nI (gd ||| 2 ^ c) := by rw [eV, gu_at]
  have f21 : V1 21 = upd (V 21) t 26 := by rw [eV, gu_row (by omega)]; unfold gu; rw [gs_at]
  have hm : ∀ j, j ≠ 6 → j ≠ 192 + 6 * t + 4 → m1 j = W 214 j := fun j b1 b2 => by rw [em, upd_ne b1, upd_ne b2]
  have hm6 : m1 6 = nI (gd ||| 2 ^ c) := by rw [em, upd_at]
  have hm26 : ∀ p, m1 (192 + 6 * p + 4) = upd (fun p => W 214 (192 + 6 * p + 4)) t 26 p := fun p => by
    rw [em, upd_ne (by omega)]
    by_cases e : p = t
    · subst e; rw [upd_at, upd_at]
    · rw [upd_ne e, upd_ne (by omega)]
  have e28 : BX5_guessLetter_28 (nI c) (nI t) fl V = BX5_guessLetter_52 (nI c) (nI t) fl V1 ∧ (PX5_guessLetter_28 (nI c) (nI t) fl V ↔ PX5_guessLetter_52 (nI c) (nI t) fl V1) := by
    unfold BX5_guessLetter_28 BX5_guessLetter_37 PX5_guessLetter_28 PX5_guessLetter_37 MX0_dropHint
    rw [pu_put (k := 20) (n := 5) kd21 ht5]
    show BX5_guessLetter_52 _ _ _ (gu (gu V 21 t 26) 24 6 (gu V 21 t 26 24 6 ||| _)) = _ ∧ (PX5_guessLetter_52 _ _ _ (gu (gu V 21 t 26) 24 6 (gu V 21 t 26 24 6 ||| _)) ↔ _)
    rw [gu_row (show 24 ≠ 21 by omega), o12, pu_sh1 c (by omega), pu_or, ← eV]
    exact ⟨rfl, Iff.rfl⟩
  have z4 : ∀ V1 : gV, MX9_at (nI t) 4 V1 = nI (192 + 6 * t + 4) := fun V1 => at_nat (w := 4) (by omega) (by omega)
  have i4 := pu_in (show 192 + 6 * t + 4 < 246 by omega) (show 246 < 2 ^ 31 by omega)
  have e80 : BX9_guess_80 (nI c) (nI (sPl ln lt z c)) (nI t) fl W = BX9_guess_107 (nI (sPl ln lt z c)) (nI t) fl (gs W 214 m1) ∧ (PX9_guess_107 (nI (sPl ln lt z c)) (nI t) fl (gs W 214 m1) → PX9_guess_80 (nI c) (nI (sPl ln lt z c)) (nI t) fl W) := by
    unfold BX9_guess_80 BX9_guess_94 PX9_guess_80 PX9_guess_94
    simp only [pc6, z4, nI_clamp (show 192 + 6 * t + 4 < 2 ^ 31 by omega), gu_of (V := W) (k := 214) rfl, gs_at, gu_gs, upd_ne (show 6 ≠ 192 + 6 * t + 4 by omega), o12', pu_sh1 c (show c < 31 by omega), pu_or]
    rw [← em]
    exact ⟨rfl, fun p => ⟨i4, p⟩⟩
  rw [e28.1, e80.1]
  have G1 : rWd (fun c => V1 (1 + c)) m1 nw ln wt lt := g1.congr (fun c j s => f (1 + c) j (by omega) (by omega)) (fun j s => hm j (by omega) (by omega))
  have G3 : rPs (fun c => V1 (1 + c)) m1 kp := g3.congr (fun c j s => f (1 + c) j (by omega) (by omega)) (fun j s => hm j (by omega) (by omega))
  have G4 : rNm (fun c => V1 (1 + c)) m1 np d lim st := g4'.congr (fun j s => f 1 j (by omega) (by omega)) (fun j s => hm j (by omega) (by omega))
  obtain ⟨k1, k2⟩ := cw_places (cW_of G1) o3 (show c < 2 ^ 31 by omega)
  have e24 : V1 24 1 = nI z := (f 24 1 (by omega) (by omega)).trans o7
  have eb : MJ6_bitCount_0f7a4 (MX7_placesOf (V1 24 1) (nI c) V1) V1 = nI (cn 16 (sPl ln lt z c)) := by rw [e24, k2, bitCount_ok (by omega)]
  have hcn : cn 16 (sPl ln lt z c) ≤ 16 := cn_le 16 _
  by_cases hp0 : sPl ln lt z c = 0
  · -- a miss
    have hno : ∀ k, k < ln z → decide (lt z k = c) = false := fun k hk => by
      have a := congrArg (fun x => x.testBit k) hp0
      unfold sPl at a
      simp only [sOr_bit, Nat.zero_testBit, hk, decide_true, Bool.true_and] at a
      exact a
    have G2 : rBn (fun c => V1 (1 + c)) m1 np := by
      refine hit_bn (q := t) (a := 0) (b := 0) (u := 0) g2 o4 (by rw [fr 11 (by omega) (by omega)]) ?_ o4 (fr 15 (by omega) (by omega)) ?_ (fr 19 (by omega) (by omega)) f21 (fr 23 (by omega) (by omega)) (hm 1 (by omega) (by omega)) (fun p => ?_) (fun p => hm _ (by omega) (by omega)) (fun p => ?_) (fun p => hm _ (by omega) (by omega)) hm26 (fun p => hm _ (by omega) (by omega))
      · rw [upd_self, upd_self]; exact fr 13 (by omega) (by omega)
      · rw [upd_self]; exact fr 17 (by omega) (by omega)
      · rw [hm _ (by omega) (by omega)]
        have e : upd (fun p => W 214 (192 + 6 * p)) t (W 214 (192 + 6 * t) + 0) = (fun p => W 214 (192 + 6 * p)) := upd_self
        rw [e]
        have e : upd (fun p => W 214 (192 + 6 * p)) t (W 214 (192 + 6 * t) + 0) = (fun p => W 214 (192 + 6 * p)) := upd_self
        rw [e]
      · rw [hm _ (by omega) (by omega)]
        have e : upd (fun p => W 214 (192 + 6 * p + 2)) t (W 214 (192 + 6 * t + 2) + 0) = (fun p => W 214 (192 + 6 * p + 2)) := upd_self
        rw [e]
    have G5 : rOn (fun c => V1 (1 + c)) m1 nw np lim ln lt z t ms (gd ||| 2 ^ c) := by
      refine ⟨(f 24 0 (by omega) (by omega)).trans o1, (hm 2 (by omega) (by omega)).trans o2, o3, o4, o5, hgd, ⟨e24, (hm 13 (by omega) (by omega)).trans o7'⟩, (f 24 2 (by omega) (by omega)).trans (o8.trans (hm 14 (by omega) (by omega)).symm), ⟨(f 24 3 (by omega) (by omega)).trans o9, (hm 3 (by omega) (by omega)).trans o9'⟩, (f 24 4 (by omega) (by omega)).trans (o10.trans (hm 4 (by omega) (by omega)).symm), ⟨(f 24 5 (by omega) (by omega)).trans o11, (hm 5 (by omega) (by omega)).trans o11'⟩, ⟨f6, hm6⟩, ?_, ?_⟩
      · rw [hm 7 (by omega) (by omega), o13, ← hop, hp0, Nat.or_zero]
      · obtain ⟨k, hk, hg⟩ := o14
        exact ⟨k, hk, by rw [hf k, hg, hno k hk]; rfl⟩
    have e52 : BX5_guessLetter_52 (nI c) (nI t) fl V1 = (nI 0, MX5_countMiss V1) := by
      unfold BX5_guessLetter_52
      rw [eb, hp0, cn_0, if_pos (show nI 0 = 0 from rfl)]
      rfl
    obtain ⟨q1, q2, q3, m2, q4, q5⟩ := miss_ok (V := V1) (W := gs W 214 m1) (by rw [gs_at]; exact G1) (by rw [gs_at]; exact G2) (by rw [gs_at]; exact G3) (by rw [gs_at]; exact G4) (by rw [gs_at]; exact G5)
    obtain ⟨w1, w2⟩ := cn_up (x := 0) (V := MX9_misses (gs W 214 m1)) (by omega)
    rw [e52]
    refine ⟨e28.2.mpr ?_, e80.2 ?_, fun x hx => ?_, 0, m2, rfl, ?_, q5⟩
    · unfold PX5_guessLetter_52
      rw [eb, hp0, cn_0]
      exact ⟨by rw [e24]; exact k1, fun _ => q1, fun h => absurd rfl h⟩
    · unfold PX9_guess_107 PX9_guess_144
      rw [hp0]
      exact ⟨fun _ => ⟨q2, w2⟩, fun h => absurd rfl h⟩
    · show MX5_countMiss V1 x = _
      rw [q3 x hx, fr x (by omega) (by omega)]
    · unfold BX9_guess_107 BX9_guess_144
      rw [hp0, if_pos (show nI 0 = 0 from rfl), w1, q4, gs_gs, cn_0]
  · have hpn := cn_pos (f := 16) hp0 hpl
    have hp1 : ¬ nI (sPl ln lt z c) = 0 := nI_ne0 (by omega) (by omega)
    have hn1 : ¬ nI (cn 16 (sPl ln lt z c)) = 0 := nI_ne0 (by omega) (by omega)
    generalize hn0 : cn 16 (sPl ln lt z c) = n0 at *
    -- the class behind the pay
    obtain ⟨V2, eV2⟩ : ∃ v, v = gu V1 17 t (V1 17 t + 1) := ⟨_, rfl⟩
    have h23 : V2 23 = V 23 := by rw [eV2, gu_row (by omega), fr 23 (by omega) (by omega)]
    have h13 : V2 13 = V 13 := by rw [eV2, gu_row (by omega), fr 13 (by omega) (by omega)]
    have h24 : V2 24 = V1 24 := by rw [eV2, gu_row (by omega)]
    have h244 : V2 24 4 = V 24 4 := by rw [h24, f 24 4 (by omega) (by omega)]
    have pay := c_pay (V := V2) (n := nI n0) (fl := fl) ht5 (show q < 5 by omega) (by
      rcases hfl with h | ⟨h, h2, h3⟩
      · exact Or.inl h
      · exact Or.inr ⟨h, by rw [h23]; exact h2⟩)
    rw [h244, h13] at pay
    obtain ⟨V5, eV5⟩ : ∃ v, v = gs (gu V2 24 4 (V 24 4 - kTk (V 24 4) (nI n0))) 13 (kRow (V 13) t q (kTk (V 24 4) (nI n0) - kSh fl (kTk (V 24 4) (nI n0))) (kSh fl (kTk (V 24 4) (nI n0)))) := ⟨_, rfl⟩
    rw [← eV5] at pay
    have v13 : V5 13 = kRow (V 13) t q (kTk (V 24 4) (nI n0) - kSh fl (kTk (V 24 4) (nI n0))) (kSh fl (kTk (V 24 4) (nI n0))) := by rw [eV5, gs_at]
    have v17 : V5 17 = upd (V 17) t (V 17 t + 1) := by
      rw [eV5, gs_ne (by omega), gu_row (by omega), eV2]
      unfold gu
      rw [gs_at, fr 17 (by omega) (by omega)]
    have vr : ∀ x, x ≠ 13 → x ≠ 17 → x ≠ 24 → V5 x = V1 x := fun x b1 b2 b3 => by rw [eV5, gs_ne b1, gu_row b3, eV2, gu_row b2]
    have v24 : ∀ j, j ≠ 4 → V5 24 j = V1 24 j := fun j b => by rw [eV5, gs_ne (by omega), gu_col b, h24]
    have v4 : V5 24 4 = V 24 4 - kTk (V 24 4) (nI n0) := by rw [eV5, gs_ne (by omega), gu_at]
    -- the reference behind it
    obtain ⟨m5, em5⟩ : ∃ v, v = kHit m1 t q (nI n0) fl (nI (sOr (fun k => gd.testBit (lt z k)) (ln z) ||| sPl ln lt z c)) := ⟨_, rfl⟩
    have x7 : m5 7 = nI (sOr (fun k => (gd ||| 2 ^ c).testBit (lt z k)) (ln z)) := by rw [em5, ← hop]; unfold kHit; rw [upd_at]
    have xr : ∀ j, j ≠ 4 → j ≠ 7 → j ≠ 192 + 6 * t → j ≠ 192 + 6 * q → j ≠ 192 + 6 * t + 2 → m5 j = m1 j := fun j b1 b2 b3 b4 b5 => by
      rw [em5]; unfold kHit; rw [upd_ne b2, upd_ne b5, upd_ne b4, upd_ne b3, upd_ne b1]
    have w4 : m1 4 = W 214 4 := hm 4 (by omega) (by omega)
    have x4 : m5 4 = W 214 4 - kTk (W 214 4) (nI n0) := by
      rw [em5]; unfold kHit
      rw [upd_ne (by omega), upd_ne (by omega), upd_ne (by omega), upd_ne (by omega), upd_at, w4]
    have x0 : ∀ p, m5 (192 + 6 * p) = upd (upd (fun p => W 214 (192 + 6 * p)) t (W 214 (192 + 6 * t) + (kTk (V 24 4) (nI n0) - kSh fl (kTk (V 24 4) (nI n0))))) q (upd (fun p => W 214 (192 + 6 * p)) t (W 214 (192 + 6 * t) + (kTk (V 24 4) (nI n0) - kSh fl (kTk (V 24 4) (nI n0)))) q + kSh fl (kTk (V 24 4) (nI n0))) p := fun p => by
      rw [em5, o10]; unfold kHit
      rw [upd_ne (by omega), upd_ne (by omega), w4, hm (192 + 6 * t) (by omega) (by omega)]
      by_cases e1 : p = q
      · subst e1
        rw [upd_at, upd_at]
        by_cases e2 : p = t
        · subst e2
          rw [upd_at, upd_at]
        · rw [upd_ne (by omega), upd_ne (by omega), upd_ne e2, hm _ (by omega) (by omega)]
      · rw [upd_ne (show 192 + 6 * p ≠ 192 + 6 * q by omega), upd_ne e1]
        by_cases e2 : p = t
        · subst e2
          rw [upd_at, upd_at]
        · rw [upd_ne (by omega), upd_ne (by omega), upd_ne e2, hm _ (by omega) (by omega)]
    have x2 : ∀ p, m5 (192 + 6 * p + 2) = upd (fun p => W 214 (192 + 6 * p + 2)) t (W 214 (192 + 6 * t + 2) + 1) p := fun p => by
      by_cases e : p = t
      · subst e
        rw [em5]; unfold kHit
        rw [upd_ne (by omega), upd_at, upd_at, hm _ (by omega) (by omega)]
      · rw [xr _ (by omega) (by omega) (by omega) (by omega) (by omega), hm _ (by omega) (by omega), upd_ne e]
    have N1 : rWd (fun c => V5 (1 + c)) m5 nw ln wt lt := G1.congr (fun c j s => by show V5 (1 + c) j = V1 (1 + c) j; rw [vr (1 + c) (by omega) (by omega) (by omega)]) (fun j s => xr j (by omega) (by omega) (by omega) (by omega) (by omega))
    have N3 : rPs (fun c => V5 (1 + c)) m5 kp := G3.congr (fun c j s => by show V5 (1 + c) j = V1 (1 + c) j; rw [vr (1 + c) (by omega) (by omega) (by omega)]) (fun j s => xr j (by omega) (by omega) (by omega) (by omega) (by omega))
    have N4 : rNm (fun c => V5 (1 + c)) m5 np d lim st := G4.congr (fun j s => by show V5 1 j = V1 1 j; rw [vr 1 (by omega) (by omega) (by omega)]) (fun j s => xr j (by omega) (by omega) (by omega) (by omega) (by omega))
    have y : ∀ x, x ≠ 13 → x ≠ 17 → x ≠ 24 → x ≠ 21 → V5 x = V x := fun x b1 b2 b3 b4 => by rw [vr x b1 b2 b3, fr x b4 b3]
    have N2 : rBn (fun c => V5 (1 + c)) m5 np := hit_bn (q := q) (u := 1) g2 o4 (by rw [y 11 (by omega) (by omega) (by omega) (by omega)]) v13 hq (y 15 (by omega) (by omega) (by omega) (by omega)) v17 (y 19 (by omega) (by omega) (by omega) (by omega)) (by rw [vr 21 (by omega) (by omega) (by omega), f21]) (y 23 (by omega) (by omega) (by omega) (by omega)) (by rw [xr 1 (by omega) (by omega) (by omega) (by omega) (by omega), hm 1 (by omega) (by omega)]) x0 (fun p => by rw [xr _ (by omega) (by omega) (by omega) (by omega) (by omega), hm _ (by omega) (by omega)]) x2 (fun p => by rw [xr _ (by omega) (by omega) (by omega) (by omega) (by omega), hm _ (by omega) (by omega)]) (fun p => by rw [xr _ (by omega) (by omega) (by omega) (by omega) (by omega)]; exact hm26 p) (fun p => by rw [xr _ (by omega) (by omega) (by omega) (by omega) (by omega), hm _ (by omega) (by omega)])
    have xx : ∀ j, j ≠ 4 → j ≠ 7 → j ≠ 6 → j < 192 → m5 j = W 214 j := fun j b1 b2 b3 b4 => by rw [xr j b1 b2 (by omega) (by omega) (by omega), hm j b3 (by omega)]
    have u0 : V5 24 0 = 1 := by rw [v24 0 (by omega), f 24 0 (by omega) (by omega), o1]
    have u1 : V5 24 1 = nI z := by rw [v24 1 (by omega), f 24 1 (by omega) (by omega), o7]
    have u2 : V5 24 2 = m5 14 := by rw [v24 2 (by omega), f 24 2 (by omega) (by omega), o8, xx 14 (by omega) (by omega) (by omega) (by omega)]
    have u3 : V5 24 3 = nI t := by rw [v24 3 (by omega), f 24 3 (by omega) (by omega), o9]
    have u4 : V5 24 4 = m5 4 := by rw [v4, x4, o10]
    have u5 : V5 24 5 = nI ms := by rw [v24 5 (by omega), f 24 5 (by omega) (by omega), o11]
    have u5' : m5 5 = nI ms := by rw [xx 5 (by omega) (by omega) (by omega) (by omega), o11']
    have u6 : V5 24 6 = nI (gd ||| 2 ^ c) := by rw [v24 6 (by omega), f6]
    have u13 : m5 13 = nI z := by rw [xx 13 (by omega) (by omega) (by omega) (by omega), o7']
    obtain ⟨c1, c2⟩ := cr_open (cW_of N1) (z := z) (gd := gd ||| 2 ^ c) ⟨u0, o3, hgd, u1, u6⟩
    have c3 : MX4_at 3 (nI z) V5 = nI (ln z) := cw_len (cW_of N1) o3
    have e52 : BX5_guessLetter_52 (nI c) (nI t) fl V1 = BX5_guessLetter_103 (nI n0) V5 ∧ (PX5_guessLetter_103 (nI n0) V5 → PX5_guessLetter_52 (nI c) (nI t) fl V1) := by
      unfold BX5_guessLetter_52 PX5_guessLetter_52 BX5_guessLetter_95 PX5_guessLetter_95
      rw [eb, if_neg hn1, pu_add (k := 16) (n := 5) kd17 ht5]
      show BX5_guessLetter_103 (nI n0) (MX5_payForPlaces (nI t) (nI n0) fl (gu V1 17 t (V1 17 t + 1))) = _ ∧ (_ → _ ∧ _ ∧ (_ → PX5_guessLetter_103 (nI n0) (MX5_payForPlaces (nI t) (nI n0) fl (gu V1 17 t (V1 17 t + 1)))))
      rw [← eV2, pay, e24]
      exact ⟨rfl, fun p => ⟨k1, fun h => absurd h hn1, fun _ => p⟩⟩
    obtain ⟨w1, w2⟩ := cn_up hpl (V := gs W 214 m1)
    rw [hn0] at w1
    obtain ⟨h1, h2⟩ := m_hits (W := W) (m := m1) (fl := fl) ht5 (show q < 5 by omega) w1 w2 (by rw [hm 3 (by omega) (by omega), o9']) (by rw [hm 7 (by omega) (by omega), o13])
    rw [← em5] at h1 h2
    have z5 : ∀ V1 : gV, MX9_at (nI t) 5 V1 = nI (192 + 6 * t + 5) := fun V1 => at_nat (w := 5) (by omega) (by omega)
    have i5 := pu_in (show 192 + 6 * t + 5 < 246 by omega) (show 246 < 2 ^ 31 by omega)
    have e107 : BX9_guess_107 (nI (sPl ln lt z c)) (nI t) fl (gs W 214 m1) = BX9_guess_144 (nI (sPl ln lt z c)) (BX9_hits_121 (nI t) (gs W 214 m5)) ∧ (PX9_hits_121 (nI t) (gs W 214 m5) → PX9_guess_107 (nI (sPl ln lt z c)) (nI t) fl (gs W 214 m1)) := by
      unfold BX9_guess_107 PX9_guess_107 BX9_guess_141 PX9_guess_141
      rw [if_neg hp1, z5, nI_clamp (by omega), gs_at, hm (192 + 6 * t + 5) (by omega) (by omega)]
      rcases hfl with ⟨h, e⟩ | ⟨h, e, e2⟩
      · subst e
        rw [if_pos h, h1]
        exact ⟨rfl, fun p => ⟨fun h => absurd h hp1, fun _ => ⟨fun _ => ⟨h2 p, (cn_up hpl).2⟩, fun q => absurd h q⟩⟩⟩
      · rw [if_neg h, e2, h1]
        exact ⟨rfl, fun p => ⟨fun h => absurd h hp1, fun _ => ⟨fun q => absurd q h, fun _ => ⟨i5, h2 p, (cn_up hpl).2⟩⟩⟩⟩
    obtain ⟨l1, l2⟩ := mw_len (V := gs W 214 m5) (mW_of (s := fun c => V5 (1 + c)) (by rw [gs_at]; exact N1)) o3
    have hpow : 2 ^ ln z < 2 ^ 31 := Nat.pow_lt_pow_right (by omega) (by omega)
    have hpo : 0 < 2 ^ ln z := Nat.two_pow_pos _
    have hol : sOr (fun k => (gd ||| 2 ^ c).testBit (lt z k)) (ln z) < 2 ^ ln z := sOr_lt _ _
    have c5 : (1 : Int32) <<< (nI (ln z) &&& 31) - 1 = nI (2 ^ ln z - 1) := by
      rw [pu_sh1 _ (by omega)]
      exact pu_sub (b := 1) hpo
    have e121 : BX9_hits_121 (nI t) (gs W 214 m5) = (if nI (sOr (fun k => (gd ||| 2 ^ c).testBit (lt z k)) (ln z)) = nI (2 ^ ln z - 1) then MX9_ends (nI t) (gs W 214 m5) else gs W 214 m5) ∧ ((nI (sOr (fun k => (gd ||| 2 ^ c).testBit (lt z k)) (ln z)) = nI (2 ^ ln z - 1) → PX9_ends (nI t) (gs W 214 m5)) → PX9_hits_121 (nI t) (gs W 214 m5)) := by
      unfold BX9_hits_121 PX9_hits_121
      rw [pc7, pc13, gs_at, x7, u13, l2, c5]
      exact ⟨rfl, fun p => ⟨l1, p⟩⟩
    rw [e52.1, e107.1, e121.1]
    have e103 : BX5_guessLetter_103 (nI n0) V5 = (if nI (sCt (fun k => (gd ||| 2 ^ c).testBit (lt z k)) (ln z)) = nI (ln z) then (nI n0, MX5_winRound V5) else (nI n0, V5)) ∧ ((nI (sCt (fun k => (gd ||| 2 ^ c).testBit (lt z k)) (ln z)) = nI (ln z) → PX5_winRound V5) → PX5_guessLetter_103 (nI n0) V5) := by
      unfold BX5_guessLetter_103 PX5_guessLetter_103
      rw [c2, u1, c3]
      exact ⟨rfl, fun p => ⟨c1, p⟩⟩
    rw [e103.1]
    have hct := sCt_le (f := fun k => (gd ||| 2 ^ c).testBit (lt z k)) (ln z)
    by_cases hall : ∀ k, k < ln z → (gd ||| 2 ^ c).testBit (lt z k) = true
    · have d1 : nI (sCt (fun k => (gd ||| 2 ^ c).testBit (lt z k)) (ln z)) = nI (ln z) := congrArg nI ((sCt_full _).mpr hall)
      have d2 : nI (sOr (fun k => (gd ||| 2 ^ c).testBit (lt z k)) (ln z)) = nI (2 ^ ln z - 1) := congrArg nI (sOr_full.mpr hall)
      obtain ⟨q1, q2, q3, m2, q4, q5⟩ := win_ok (V := V5) (W := gs W 214 m5) (by rw [gs_at]; exact N1) (by rw [gs_at]; exact N2) (by rw [gs_at]; exact N3) (by rw [gs_at]; exact N4) (by rw [gs_at, u1, u13]) (by rw [gs_at]; exact u2) u3 o4 (by rw [gs_at]; exact u4) (by rw [gs_at, u5, u5'])
      rw [if_pos d1, if_pos d2]
      refine ⟨e28.2.mpr (e52.2 (e103.2 fun _ => q1)), e80.2 (e107.2 (e121.2 fun _ => q2)), fun x hx => ?_, n0, m2, rfl, ?_, q5⟩
      · show MX5_winRound V5 x = _
        rw [q3 x hx, y x (by omega) (by omega) (by omega) (by omega)]
      · unfold BX9_guess_144
        rw [(cn_up hpl).1, hn0, q4, gs_gs]
    · have d1 : ¬ nI (sCt (fun k => (gd ||| 2 ^ c).testBit (lt z k)) (ln z)) = nI (ln z) := fun h => hall ((sCt_full _).mp ((nI_eq (by omega) (by omega)).mp h))
      have d2 : ¬ nI (sOr (fun k => (gd ||| 2 ^ c).testBit (lt z k)) (ln z)) = nI (2 ^ ln z - 1) := fun h => hall (sOr_full.mp ((nI_eq (by omega) (by omega)).mp h))
      rw [if_neg d1, if_neg d2]
      refine ⟨e28.2.mpr (e52.2 (e103.2 fun h => absurd h d1)), e80.2 (e107.2 (e121.2 fun h => absurd h d2)), fun x hx => ?_, n0, m5, rfl, ?_, ?_⟩
      · show V5 x = _
        rw [y x (by omega) (by omega) (by omega) (by omega)]
      · unfold BX9_guess_144
        rw [(cn_up hpl).1, hn0]
      · refine ⟨nw, np, kp, d, lim, st, ln, wt, lt, N1, N2, N3, N4, Or.inr ⟨z, t, ms, gd ||| 2 ^ c, u0, ?_, o3, o4, o5, hgd, ⟨u1, u13⟩, u2, ⟨u3, ?_⟩, u4, ⟨u5, u5'⟩, ⟨u6, ?_⟩, x7, ?_⟩⟩
        · rw [xx 2 (by omega) (by omega) (by omega) (by omega), o2]
        · rw [xx 3 (by omega) (by omega) (by omega) (by omega), o9']
        · rw [xr 6 (by omega) (by omega) (by omega) (by omega) (by omega), hm6]
        · exact Classical.byContradiction fun h => hall fun k hk => by
            cases hh : (gd ||| 2 ^ c).testBit (lt z k) with
            | true => rfl
            | false => exact absurd ⟨k, hk, hh⟩ h
