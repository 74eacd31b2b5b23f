section MW3
variable {V : gV} {nw : Nat} {ln wt : Nat → Nat} {lt : Nat → Nat → Nat}
theorem mw_fitting (h : mW V nw ln wt lt) {z gd : Nat} (hr : mR V nw ln lt z gd) : PX9_fitting V ∧ MX9_fitting V = nI (sFitting nw ln lt z gd) := by
  have hn := h.1
  unfold PX9_fitting MX9_fitting sFitting
  refine pu_loop (fun f i => PX9_fitting_4 f (nI (sOr (sFit ln lt z gd) i)) (nI i) V ∧ BX9_fitting_4 f (nI (sOr (sFit ln lt z gd) i)) (nI i) V = nI (sOr (sFit ln lt z gd) nw)) nw (fun f => ?_) (fun f i hi ih => ?_) nw 1000 0 (by omega) (by omega)
  · have e : nI nw ≤ nI nw := nI_le (Nat.le_refl _) (by omega)
    simp only [PX9_fitting_4, BX9_fitting_4, pc0, mw_sz h]
    simp [e]
  · have e := nI_ge hi (by omega)
    obtain ⟨hP, hM⟩ := mw_fits h hr hi
    simp only [PX9_fitting_4, BX9_fitting_4, PX9_fitting_30, BX9_fitting_30, pc0, mw_sz h, hM, pu_sh1 i (by omega), pu_or, nI_1, Int32.or_zero]
    have e1 : ¬ (1 : Int32) = 0 := by decide
    cases hx : sFit ln lt z gd i with
    | true =>
      rw [sOr, if_pos hx] at ih
      simp [e, e1, hP, ih]
    | false =>
      rw [sOr, if_neg (by rw [hx]; decide), Nat.or_zero] at ih
      simp [e, hP, ih]
theorem mw_having (h : mW V nw ln wt lt) {set c : Nat} (hs : set < 2 ^ 31) (hc : c < 26) : PX9_weightsOf (nI set) (nI c) V ∧ MX9_weightsOf (nI set) (nI c) V = nI (sWhv nw ln wt lt set c) := by
  have hn := h.1
  have hc26 : ¬ nI c = 26 := fun q => by
    have := (nI_eq (b := 26) (by omega) (by omega)).mp q
    omega
  unfold PX9_weightsOf MX9_weightsOf sWhv
  refine pu_loop (fun f i => PX9_weightsOf_5 f (nI set) (nI c) (nI (sSum (fun w => if set.testBit w = true ∧ sPl ln lt w c ≠ 0 then wt w else 0) i)) (nI i) V ∧ BX9_weightsOf_5 f (nI set) (nI c) (nI (sSum (fun w => if set.testBit w = true ∧ sPl ln lt w c ≠ 0 then wt w else 0) i)) (nI i) V = nI (sSum (fun w => if set.testBit w = true ∧ sPl ln lt w c ≠ 0 then wt w else 0) nw)) nw (fun f => ?_) (fun f i hi ih => ?_) nw 1000 0 (by omega) (by omega)
  · have e : nI nw ≤ nI nw := nI_le (Nat.le_refl _) (by omega)
    simp only [PX9_weightsOf_5, BX9_weightsOf_5, pc0, mw_sz h]
    simp [e]
  · have e := nI_ge hi (by omega)
    obtain ⟨hP, hM⟩ := mw_places h hi (show c < 2 ^ 31 by omega)
    obtain ⟨hPw, hMw⟩ := mw_wt h hi
    have hb := sPl_lt (lt := lt) (c := c) (mw_ln h hi).2
    have h0 : (nI (sPl ln lt i c) = 0) ↔ sPl ln lt i c = 0 := nI_eq (b := 0) (by omega) (by omega)
    have e1 : ¬ (1 : Int32) = 0 := by decide
    simp only [PX9_weightsOf_5, BX9_weightsOf_5, PX9_weightsOf_32, BX9_weightsOf_32, PX9_weightsOf_37, BX9_weightsOf_37, PX9_weightsOf_65, BX9_weightsOf_65, PX9_weightsOf_66, BX9_weightsOf_66, pc0, mw_sz h, hM, hMw, pu_shr hs (show i < 31 by omega), nI_1, nI_add, Int32.add_zero, h0]
    rw [sSum] at ih
    cases hx : set.testBit i with
    | true =>
      by_cases hy : sPl ln lt i c = 0
      · rw [if_neg (by simp [hy]), Nat.add_zero] at ih
        simp [e, e1, hc26, hP, hPw, hy, ih]
      · rw [if_pos ⟨hx, hy⟩] at ih
        simp [e, e1, hc26, hP, hPw, hy, ih]
    | false =>
      rw [if_neg (by simp [hx]), Nat.add_zero] at ih
      by_cases hy : sPl ln lt i c = 0
      · simp [e, e1, hc26, hP, hy, ih]
      · simp [e, e1, hc26, hP, hy, ih]
theorem mw_all (h : mW V nw ln wt lt) {set : Nat} (hs : set < 2 ^ 31) : PX9_weightsOf (nI set) 26 V ∧ MX9_weightsOf (nI set) 26 V = nI (sWof nw wt set) := by
  have hn := h.1
  unfold PX9_weightsOf MX9_weightsOf sWof
  refine pu_loop (fun f i => PX9_weightsOf_5 f (nI set) 26 (nI (sSum (fun w => if set.testBit w = true then wt w else 0) i)) (nI i) V ∧ BX9_weightsOf_5 f (nI set) 26 (nI (sSum (fun w => if set.testBit w = true then wt w else 0) i)) (nI i) V = nI (sSum (fun w => if set.testBit w = true then wt w else 0) nw)) nw (fun f => ?_) (fun f i hi ih => ?_) nw 1000 0 (by omega) (by omega)
  · have e : nI nw ≤ nI nw := nI_le (Nat.le_refl _) (by omega)
    simp only [PX9_weightsOf_5, BX9_weightsOf_5, pc0, mw_sz h]
    simp [e]
  · have e := nI_ge hi (by omega)
    obtain ⟨hPw, hMw⟩ := mw_wt h hi
    have e1 : ¬ (1 : Int32) = 0 := by decide
    simp only [PX9_weightsOf_5, BX9_weightsOf_5, PX9_weightsOf_32, BX9_weightsOf_32, PX9_weightsOf_37, BX9_weightsOf_37, PX9_weightsOf_65, BX9_weightsOf_65, PX9_weightsOf_66, BX9_weightsOf_66, pc0, mw_sz h, hMw, pu_shr hs (show i < 31 by omega), nI_1, nI_add, Int32.add_zero]
    rw [sSum] at ih
    cases hx : set.testBit i with
    | true =>
      rw [if_pos hx] at ih
      simp [e, e1, hPw, ih]
    | false =>
      rw [if_neg (by simp [hx]), Nat.add_zero] at ih
      simp [e, e1, ih]
theorem mw_letters (h : mW V nw ln wt lt) {w : Nat} (hw : w < nw) : PX9_lettersOf (nI w) V ∧ MX9_lettersOf (nI w) V = nI (sLS (lt w) (ln w)) := by
  have hL := (mw_ln h hw).2
  obtain ⟨hP0, hM0⟩ := mw_len h hw
  unfold PX9_lettersOf MX9_lettersOf
  refine pu_loop (fun f i => PX9_lettersOf_4 f (nI w) (nI (sLS (lt w) i)) (nI i) V ∧ BX9_lettersOf_4 f (nI w) (nI (sLS (lt w) i)) (nI i) V = nI (sLS (lt w) (ln w))) (ln w) (fun f => ?_) (fun f i hi ih => ?_) (ln w) 1000 0 (by omega) (by omega)
  · have e : nI (ln w) ≤ nI (ln w) := nI_le (Nat.le_refl _) (by omega)
    simp only [PX9_lettersOf_4, BX9_lettersOf_4, hM0]
    simp [e, hP0]
  · have e := nI_ge hi (by omega)
    have hb := mw_ltb h hw hi
    obtain ⟨hPl, hMl⟩ := mw_lt h hw hi
    rw [sLS] at ih
    simp only [PX9_lettersOf_4, BX9_lettersOf_4, hM0, hMl, if_neg e, pu_sh1 (lt w i) (by omega), pu_or, nI_1]
    simp [e, hP0, hPl, ih]
theorem mw_inner (h : mW V nw ln wt lt) {set c w most : Nat} (hw : w < nw) (hs : set < 2 ^ 31) (hc : c < 2 ^ 31) (K : Int32 → Int32 → Int32 → Int32 → gV → Int32) (KP : Int32 → Int32 → Int32 → Int32 → gV → Prop) (hm : most ≤ 16) :
    (PX9_greatest_22 KP 1000 (nI set) (nI c) (nI most) (nI w) 0 0 V ↔ KP (nI set) (nI c) (nI (if most < (if set.testBit w = true then sGrp nw ln lt set c w else 0) then (if set.testBit w = true then sGrp nw ln lt set c w else 0) else most)) (nI (w + 1)) V) ∧ BX9_greatest_22 K 1000 (nI set) (nI c) (nI most) (nI w) 0 0 V = K (nI set) (nI c) (nI (if most < (if set.testBit w = true then sGrp nw ln lt set c w else 0) then (if set.testBit w = true then sGrp nw ln lt set c w else 0) else most)) (nI (w + 1)) V := by
  have hn := h.1
  obtain ⟨hPw, hMw⟩ := mw_places h hw hc
  have hbw := sPl_lt (lt := lt) (c := c) (mw_ln h hw).2
  have tail : ∀ n, n ≤ 16 → (PX9_greatest_86 KP (nI set) (nI c) (nI most) (nI w) (nI n) V ↔ KP (nI set) (nI c) (nI (if most < n then n else most)) (nI (w + 1)) V) ∧ BX9_greatest_86 K (nI set) (nI c) (nI most) (nI w) (nI n) V = K (nI set) (nI c) (nI (if most < n then n else most)) (nI (w + 1)) V := by
    intro n hn2
    simp only [PX9_greatest_86, BX9_greatest_86, PX9_greatest_98, BX9_greatest_98, nI_1, nI_leI (show n < 2 ^ 31 by omega) (show most < 2 ^ 31 by omega)]
    by_cases hx : most < n
    · have : ¬ n ≤ most := by omega
      simp [hx, this]
    · have : n ≤ most := by omega
      simp [hx, this]
  cases hx : set.testBit w with
  | false =>
    have k : ∀ f, (PX9_greatest_22 KP (f + 1) (nI set) (nI c) (nI most) (nI w) 0 0 V ↔ PX9_greatest_86 KP (nI set) (nI c) (nI most) (nI w) (nI 0) V) ∧ BX9_greatest_22 K (f + 1) (nI set) (nI c) (nI most) (nI w) 0 0 V = BX9_greatest_86 K (nI set) (nI c) (nI most) (nI w) (nI 0) V := by
      intro f
      have e0 : ¬ nI nw ≤ 0 := nI_nle (by omega) (by omega)
      simp only [PX9_greatest_22, BX9_greatest_22, pc0, mw_sz h, pu_shr hs (show w < 31 by omega), hx, nI_0]
      simp [e0]
    have k2 := k 999
    have t := tail 0 (by omega)
    simp only [Bool.false_eq_true, if_false]
    exact ⟨k2.1.trans t.1, k2.2.trans t.2⟩
  | true =>
    simp only [if_true]
    have hg := sGrp_le (nw := nw) (ln := ln) (lt := lt) (set := set) (c := c) (w := w)
    have t := tail (sGrp nw ln lt set c w) (by omega)
    have key := pu_loop (fun f i => (PX9_greatest_22 KP f (nI set) (nI c) (nI most) (nI w) (nI (sSum (fun v => if set.testBit v = true ∧ sPl ln lt v c = sPl ln lt w c then 1 else 0) i)) (nI i) V ↔ PX9_greatest_86 KP (nI set) (nI c) (nI most) (nI w) (nI (sGrp nw ln lt set c w)) V) ∧ BX9_greatest_22 K f (nI set) (nI c) (nI most) (nI w) (nI (sSum (fun v => if set.testBit v = true ∧ sPl ln lt v c = sPl ln lt w c then 1 else 0) i)) (nI i) V = BX9_greatest_86 K (nI set) (nI c) (nI most) (nI w) (nI (sGrp nw ln lt set c w)) V) nw (fun f => ?_) (fun f i hi ih => ?_) nw 1000 0 (by omega) (by omega)
    · exact ⟨key.1.trans t.1, key.2.trans t.2⟩
    · have e : nI nw ≤ nI nw := nI_le (Nat.le_refl _) (by omega)
      simp only [PX9_greatest_22, BX9_greatest_22, pc0, mw_sz h]
      simp [e, sGrp]
    · have e := nI_ge hi (by omega)
      obtain ⟨hP, hM⟩ := mw_places h hi hc
      have hb := sPl_lt (lt := lt) (c := c) (mw_ln h hi).2
      simp only [PX9_greatest_22, BX9_greatest_22, PX9_greatest_76, BX9_greatest_76, PX9_greatest_77, BX9_greatest_77, pc0, mw_sz h, hM, hMw, pu_shr hs (show i < 31 by omega), pu_shr hs (show w < 31 by omega), hx, nI_1, Int32.add_zero, nI_eq (show sPl ln lt i c < 2 ^ 31 by omega) (show sPl ln lt w c < 2 ^ 31 by omega)]
      rw [sSum] at ih
      cases hx2 : set.testBit i with
      | true =>
        by_cases hy : sPl ln lt i c = sPl ln lt w c
        · rw [if_pos ⟨hx2, hy⟩] at ih
          simp [e, hP, hPw, hy, ih]
        · rw [if_neg (fun q => hy q.2), Nat.add_zero] at ih
          simp [e, hP, hPw, hy, ih]
      | false =>
        rw [if_neg (by simp [hx2]), Nat.add_zero] at ih
        simp [e, ih]
theorem mw_greatest (h : mW V nw ln wt lt) {set c : Nat} (hs : set < 2 ^ 31) (hc : c < 2 ^ 31) : PX9_greatest (nI set) (nI c) V ∧ MX9_greatest (nI set) (nI c) V = nI (sLrg nw ln lt set c) := by
  have hn := h.1
  unfold PX9_greatest MX9_greatest sLrg
  refine pu_loop (fun f i => PX9_greatest_5 f (nI set) (nI c) (nI (sMax (fun w => if set.testBit w = true then sGrp nw ln lt set c w else 0) i)) (nI i) V ∧ BX9_greatest_5 f (nI set) (nI c) (nI (sMax (fun w => if set.testBit w = true then sGrp nw ln lt set c w else 0) i)) (nI i) V = nI (sMax (fun w => if set.testBit w = true then sGrp nw ln lt set c w else 0) nw)) nw (fun f => ?_) (fun f i hi ih => ?_) nw 1000 0 (by omega) (by omega)
  · have e : nI nw ≤ nI nw := nI_le (Nat.le_refl _) (by omega)
    simp only [PX9_greatest_5, BX9_greatest_5, pc0, mw_sz h]
    simp [e]
  · have e := nI_ge hi (by omega)
    have b2 := sLrg_i (nw := nw) (ln := ln) (lt := lt) (set := set) (c := c) (i := i)
    have k := mw_inner h hi hs hc (BX9_greatest_5 f) (PX9_greatest_5 f) (most := sMax (fun w => if set.testBit w = true then sGrp nw ln lt set c w else 0) i) (by omega)
    simp only [PX9_greatest_5, BX9_greatest_5, pc0, mw_sz h]
    rw [if_neg e]
    exact ⟨fun _ => k.1.mpr ih.1, k.2.trans ih.2⟩
end MW3
