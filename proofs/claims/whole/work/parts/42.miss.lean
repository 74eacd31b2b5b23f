theorem behind_ok {V : gV} {np t : Nat} (h : V 11 0 = nI np) (ht : t < np) (hn : np ≤ 5) : MX0_behind (nI t) V = nI ((t + 1) % np) := by
  unfold MX0_behind
  rw [h, nI_1]
  by_cases e : np ≤ t + 1
  · have : t + 1 = np := by omega
    rw [if_pos (nI_le e (by omega)), this, Nat.mod_self]
    rfl
  · rw [if_neg (fun q => e ((nI_leI (by omega) (by omega)).mp q)), Nat.mod_eq_of_lt (by omega)]
/-- a miss -/
theorem miss_ok {V W : gV} {nw np kp d lim st z t ms gd : Nat} {ln wt : Nat → Nat} {lt : Nat → Nat → Nat} (g1 : rWd (fun c => V (1 + c)) (W 214) nw ln wt lt) (g2 : rBn (fun c => V (1 + c)) (W 214) np) (g3 : rPs (fun c => V (1 + c)) (W 214) kp) (g4' : rNm (fun c => V (1 + c)) (W 214) np d lim st) (g5 : rOn (fun c => V (1 + c)) (W 214) nw np lim ln lt z t ms gd) :
    PX5_countMiss V ∧ PX9_misses W ∧ (∀ x, x = 0 ∨ 34 ≤ x → MX5_countMiss V x = V x) ∧ ∃ m2, MX9_misses W = gs W 214 m2 ∧ gRel (fun c => MX5_countMiss V (1 + c)) m2 := by
  have hn := g2.1
  have hk := g3.1
  obtain ⟨p1, p2, p3, p4, p5⟩ := g2
  have p3 : W 214 1 = nI np := p3
  have p2 : V 11 0 = nI np := p2
  obtain ⟨a1, a2, ⟨a3, a4, a5⟩, ⟨a6, a7, a8, a9⟩, a10, a11, a12⟩ := g4'
  have a8 : V 1 8 = nI lim := a8
  have a9 : W 214 11 = nI lim := a9
  have a2 : V 1 6 = W 214 9 := a2
  obtain ⟨o1, o2, o3, o4, o5, o6, ⟨o7, o7'⟩, o8, ⟨o9, o9'⟩, o10, ⟨o11, o11'⟩, ⟨o12, o12'⟩, o13, o14⟩ := g5
  have o9 : V 24 3 = nI t := o9
  have o9' : W 214 3 = nI t := o9'
  have o11 : V 24 5 = nI ms := o11
  have o11' : W 214 5 = nI ms := o11'
  have o10 : V 24 4 = W 214 4 := o10
  have ht5 : t < 5 := by omega
  have z3 : ∀ V1 : gV, MX9_at (nI t) 3 V1 = nI (192 + 6 * t + 3) := fun V1 => at_nat (w := 3) (by omega) (by omega)
  have i3 := pu_in (show 192 + 6 * t + 3 < 246 by omega) (show 246 < 2 ^ 31 by omega)
  -- the reference
  obtain ⟨m1, em⟩ : ∃ v, v = upd (upd (upd (W 214) 5 (nI (ms + 1))) (192 + 6 * t + 3) (W 214 (192 + 6 * t + 3) + 1)) 3 (nI ((t + 1) % np)) := ⟨_, rfl⟩
  have hm : ∀ j, j ≠ 5 → j ≠ 192 + 6 * t + 3 → j ≠ 3 → m1 j = W 214 j := fun j b1 b2 b3 => by rw [em, upd_ne b3, upd_ne b2, upd_ne b1]
  have hm5 : m1 5 = nI (ms + 1) := by rw [em, upd_ne (by omega), upd_ne (by omega), upd_at]
  have er : nI t + 1 - (nI t + 1) / nI np * nI np = nI ((t + 1) % np) := by rw [nI_1]; exact pu_rem (by omega) (by omega)
  have eM : MX9_misses W = BX9_misses_50 (gs W 214 m1) ∧ (PX9_misses_50 (gs W 214 m1) → PX9_misses W) := by
    unfold MX9_misses PX9_misses BX9_misses_10 PX9_misses_10 BX9_misses_29 PX9_misses_29
    simp only [pc1, pc3, pc5, gu_of (V := W) (k := 214) rfl, gs_at, gu_gs, o11', nI_1, upd_ne (show 3 ≠ 5 by omega), o9', z3, nI_clamp (show 192 + 6 * t + 3 < 2 ^ 31 by omega), upd_ne (show 192 + 6 * t + 3 ≠ 5 by omega), upd_ne (show 3 ≠ 192 + 6 * t + 3 by omega), upd_ne (show 1 ≠ 192 + 6 * t + 3 by omega), upd_ne (show 1 ≠ 5 by omega), p3]
    rw [pu_rem (show t + 1 < 2 ^ 31 by omega) (show np < 2 ^ 31 by omega), ← em]
    exact ⟨rfl, fun q => ⟨i3, i3, nI_ne0 (by omega) (by omega), q⟩⟩
  -- the class
  obtain ⟨V1, eV⟩ : ∃ v, v = gu (gu V 19 t (V 19 t + 1)) 24 5 (nI (ms + 1)) := ⟨_, rfl⟩
  have f : ∀ x j, (x ≠ 19 ∨ j ≠ t) → (x ≠ 24 ∨ j ≠ 5) → V1 x j = V x j := fun x j b1 b2 => by rw [eV, gu_eq, if_neg (by omega), gu_eq, if_neg (by omega)]
  have fr : ∀ x, x ≠ 19 → x ≠ 24 → V1 x = V x := fun x b1 b2 => by rw [eV, gu_row b2, gu_row b1]
  have f5 : V1 24 5 = nI (ms + 1) := by rw [eV, gu_at]
  have f19 : V1 19 t = V 19 t + 1 := by rw [eV, gu_row (by omega), gu_at]
  have eC : MX5_countMiss V = BX5_countMiss_31 V1 ∧ (PX5_countMiss V ↔ PX5_countMiss_31 V1) := by
    unfold MX5_countMiss PX5_countMiss BX5_countMiss_18 PX5_countMiss_18
    have e1 : MX4_add 18 (V 24 3) 1 V = gu V 19 t (V 19 t + 1) := by rw [o9]; exact pu_add (k := 18) (n := 5) kd19 ht5
    have e2 : gu V 19 t (V 19 t + 1) 24 5 + 1 = nI (ms + 1) := by rw [gu_row (by omega), o11, nI_1]
    rw [e1, e2, ← eV]
    exact ⟨rfl, Iff.rfl⟩
  -- what all parts but the round's are
  have g1' : rWd (fun c => V1 (1 + c)) m1 nw ln wt lt := g1.congr (fun c j s => f (1 + c) j (by omega) (by omega)) (fun j s => hm j (by omega) (by omega) (by omega))
  have g3' : rPs (fun c => V1 (1 + c)) m1 kp := g3.congr (fun c j s => f (1 + c) j (by omega) (by omega)) (fun j s => hm j (by omega) (by omega) (by omega))
  have g2' : rBn (fun c => V1 (1 + c)) m1 np := by
    refine ⟨p1, (f 11 0 (by omega) (by omega)).trans p2, (hm 1 (by omega) (by omega) (by omega)).trans p3, fun p hp => ?_, fun p hp1 hp2 => ?_⟩
    · obtain ⟨u1, u2, u3, u4, u5, u6⟩ := p4 p hp
      have u4 : V 19 p = W 214 (192 + 6 * p + 3) := u4
      have x0 := hm (192 + 6 * p) (by omega) (by omega) (by omega)
      have x1 := hm (192 + 6 * p + 1) (by omega) (by omega) (by omega)
      have x2 := hm (192 + 6 * p + 2) (by omega) (by omega) (by omega)
      have x4 := hm (192 + 6 * p + 4) (by omega) (by omega) (by omega)
      have x5 := hm (192 + 6 * p + 5) (by omega) (by omega) (by omega)
      rw [x0, x1, x2, x4, x5]
      refine ⟨(f 13 p (by omega) (by omega)).trans u1, (f 15 p (by omega) (by omega)).trans u2, (f 17 p (by omega) (by omega)).trans u3, ?_, (f 21 p (by omega) (by omega)).trans u5, ?_⟩
      · show V1 19 p = _
        by_cases e : p = t
        · subst e
          rw [f19, em, upd_ne (by omega), upd_at, u4]
        · rw [hm _ (by omega) (by omega) (by omega)]
          exact (f 19 p (by omega) (by omega)).trans u4
      · rcases u6 with u6 | ⟨u6, u7⟩
        · exact Or.inl u6
        · exact Or.inr ⟨(f 23 p (by omega) (by omega)).trans u6, u7⟩
    · obtain ⟨u1, u2, u3⟩ := p5 p hp1 hp2
      exact ⟨(hm _ (by omega) (by omega) (by omega)).trans u1, (hm _ (by omega) (by omega) (by omega)).trans u2, (hm _ (by omega) (by omega) (by omega)).trans u3⟩
  have e18 : V1 1 8 = nI lim := (f 1 8 (by omega) (by omega)).trans a8
  have eL : m1 11 = nI lim := (hm 11 (by omega) (by omega) (by omega)).trans a9
  by_cases hlt : ms + 1 < lim
  · have c1 : V1 24 5 < V1 1 8 := by rw [f5, e18]; exact nI_lt hlt (by omega)
    have c2 : ¬ gs W 214 m1 214 5 = gs W 214 m1 214 11 := by
      rw [gs_at, hm5, eL]
      exact fun q => by have := (nI_eq (by omega) (by omega)).mp q; omega
    have e24 : V1 24 3 = nI t := (f 24 3 (by omega) (by omega)).trans o9
    have e11 : V1 11 0 = nI np := (f 11 0 (by omega) (by omega)).trans p2
    have eC2 : MX5_countMiss V = gu V1 24 3 (nI ((t + 1) % np)) := by
      rw [eC.1]
      unfold BX5_countMiss_31
      rw [if_pos c1, e24, behind_ok e11 o4 hn]
    refine ⟨eC.2.mpr (fun q => absurd c1 q), eM.2 (by unfold PX9_misses_50; rw [pc5, pc11]; exact fun q => absurd q c2), fun x hx => ?_, m1, ?_, ?_⟩
    · rw [eC2, gu_row (by omega), fr x (by omega) (by omega)]
    · rw [eM.1]
      unfold BX9_misses_50
      rw [pc5, pc11, if_neg c2]
    · rw [eC2]
      have w : ∀ x j, (x ≠ 24 ∨ j ≠ 3) → gu V1 24 3 (nI ((t + 1) % np)) x j = V1 x j := fun x j b => by rw [gu_eq, if_neg (by omega)]
      refine ⟨nw, np, kp, d, lim, st, ln, wt, lt, g1'.congr (fun c j s => w (1 + c) j (by omega)) (fun j s => rfl), g2'.congr (fun c j s => w (1 + c) j (by omega)) (fun j s => rfl), g3'.congr (fun c j s => w (1 + c) j (by omega)) (fun j s => rfl), ?_, Or.inr ⟨z, (t + 1) % np, ms + 1, gd, ?_⟩⟩
      · refine ⟨((w 1 4 (by omega)).trans (f 1 4 (by omega) (by omega))).trans (a1.trans (hm 8 (by omega) (by omega) (by omega)).symm), ((w 1 6 (by omega)).trans (f 1 6 (by omega) (by omega))).trans (a2.trans (hm 9 (by omega) (by omega) (by omega)).symm), ⟨a3, ((w 1 7 (by omega)).trans (f 1 7 (by omega) (by omega))).trans a4, (hm 10 (by omega) (by omega) (by omega)).trans a5⟩, ⟨a6, a7, (w 1 8 (by omega)).trans e18, eL⟩, a10, ((w 1 5 (by omega)).trans (f 1 5 (by omega) (by omega))).trans a11, (hm 12 (by omega) (by omega) (by omega)).trans a12⟩
      · have k : ∀ j, j ≠ 3 → j ≠ 5 → gu V1 24 3 (nI ((t + 1) % np)) (1 + 23) j = V 24 j := fun j b1 b2 => (w 24 j (by omega)).trans (f 24 j (by omega) (by omega))
        have hj : (t + 1) % np < np := Nat.mod_lt _ (by omega)
        refine ⟨(k 0 (by omega) (by omega)).trans o1, (hm 2 (by omega) (by omega) (by omega)).trans o2, o3, hj, hlt, o6, ⟨(k 1 (by omega) (by omega)).trans o7, (hm 13 (by omega) (by omega) (by omega)).trans o7'⟩, (k 2 (by omega) (by omega)).trans (o8.trans (hm 14 (by omega) (by omega) (by omega)).symm), ⟨?_, ?_⟩, (k 4 (by omega) (by omega)).trans (o10.trans (hm 4 (by omega) (by omega) (by omega)).symm), ⟨?_, hm5⟩, ⟨(k 6 (by omega) (by omega)).trans o12, (hm 6 (by omega) (by omega) (by omega)).trans o12'⟩, (hm 7 (by omega) (by omega) (by omega)).trans o13, o14⟩
        · show gu V1 24 3 _ 24 3 = _
          exact gu_at
        · rw [em, upd_at]
        · show gu V1 24 3 _ 24 5 = _
          rw [gu_col (by omega), f5]
  · have hl : ms + 1 = lim := by omega
    have c1 : ¬ V1 24 5 < V1 1 8 := by rw [f5, e18, hl]; exact nI_nlt (Nat.le_refl _) (by omega)
    have c2 : gs W 214 m1 214 5 = gs W 214 m1 214 11 := by rw [gs_at, hm5, eL, hl]
    obtain ⟨V2, eV2⟩ : ∃ v, v = gu V1 1 6 (V1 1 6 + V1 24 4) := ⟨_, rfl⟩
    have w : ∀ x j, (x ≠ 1 ∨ j ≠ 6) → V2 x j = V1 x j := fun x j b => by rw [eV2, gu_eq, if_neg (by omega)]
    have wr : ∀ x, x ≠ 1 → V2 x = V1 x := fun x b => by rw [eV2, gu_row b]
    obtain ⟨k1, k2⟩ := cend_ok (V := V2) hk hn ((w 25 0 (by omega)).trans g3'.2.1) ((w 11 0 (by omega)).trans g2'.2.1) 5
    have hm15 : gs W 214 m1 214 15 = nI kp := by rw [gs_at]; exact g3'.2.2.1
    have hm1 : gs W 214 m1 214 1 = nI np := by rw [gs_at]; exact g2'.2.2.1
    obtain ⟨k3, k4⟩ := ends_house (V := gs W 214 m1) hn hk hm1 hm15
    rw [gs_at, gs_gs] at k4
    have eC2 : MX5_countMiss V = cEnd V2 kp np 5 := by
      rw [eC.1]
      unfold BX5_countMiss_31 BX5_countMiss_61
      rw [if_neg c1, ← eV2, k2]
    have v6 : V2 1 6 = V 1 6 + V 24 4 := by rw [eV2, gu_at, f 1 6 (by omega) (by omega), f 24 4 (by omega) (by omega)]
    refine ⟨eC.2.mpr (fun _ => by unfold PX5_countMiss_61; rw [← eV2]; exact k1), eM.2 (by unfold PX9_misses_50; rw [pc5, pc11]; exact fun _ => k3), fun x hx => ?_, mEnd np kp 5 (upd m1 9 (m1 9 + m1 4)), ?_, ?_⟩
    · rw [eC2, cEnd_row (by omega), wr x (by omega), fr x (by omega) (by omega)]
    · rw [eM.1]
      unfold BX9_misses_50
      rw [pc5, pc11, if_pos c2, k4]
    · rw [eC2]
      have hu : ∀ j, j ≠ 9 → upd m1 9 (m1 9 + m1 4) j = m1 j := fun j b => upd_ne b
      refine end_rel (nw := nw) (d := d) (lim := lim) (st := st) (ln := ln) (wt := wt) (lt := lt) (g1'.congr (fun c j s => w (1 + c) j (by omega)) (fun j s => hu j (by omega))) (g2'.congr (fun c j s => w (1 + c) j (by omega)) (fun j s => hu j (by omega))) (g3'.congr (fun c j s => w (1 + c) j (by omega)) (fun j s => hu j (by omega))) ?_ ?_ ?_ ?_ 5
      · refine ⟨((w 1 4 (by omega)).trans (f 1 4 (by omega) (by omega))).trans (a1.trans ((hu 8 (by omega)).trans (hm 8 (by omega) (by omega) (by omega))).symm), ?_, ⟨a3, ((w 1 7 (by omega)).trans (f 1 7 (by omega) (by omega))).trans a4, ((hu 10 (by omega)).trans (hm 10 (by omega) (by omega) (by omega))).trans a5⟩, ⟨a6, a7, (w 1 8 (by omega)).trans e18, (hu 11 (by omega)).trans eL⟩, a10, ((w 1 5 (by omega)).trans (f 1 5 (by omega) (by omega))).trans a11, ((hu 12 (by omega)).trans (hm 12 (by omega) (by omega) (by omega))).trans a12⟩
        show V2 1 6 = _
        rw [v6, upd_at, hm 9 (by omega) (by omega) (by omega), hm 4 (by omega) (by omega) (by omega), a2, o10]
      · rw [w 24 1 (by omega), f 24 1 (by omega) (by omega), hu 13 (by omega), hm 13 (by omega) (by omega) (by omega)]
        exact o7.trans o7'.symm
      · rw [w 24 2 (by omega), f 24 2 (by omega) (by omega), hu 14 (by omega), hm 14 (by omega) (by omega) (by omega)]
        exact o8
      · rw [w 24 5 (by omega), f5, hu 5 (by omega), hm5]
