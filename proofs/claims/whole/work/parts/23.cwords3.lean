section CW3
variable {V : gV} {nw : Nat} {ln wt : Nat → Nat} {lt : Nat → Nat → Nat}
theorem cw_fitting (h : cW V nw ln wt lt) {z gd : Nat} (hz : z < nw) (hg : gd < 2 ^ 26) : PX7_fitting (nI z) (nI gd) V ∧ MX7_fitting (nI z) (nI gd) V = nI (sFitting nw ln lt z gd) := by
  have hn := h.1
  unfold PX7_fitting MX7_fitting sFitting
  refine pu_loop (fun f i => PX7_fitting_5 f (nI z) (nI gd) (nI (sOr (sFit ln lt z gd) i)) (nI i) V ∧ BX7_fitting_5 f (nI z) (nI gd) (nI (sOr (sFit ln lt z gd) i)) (nI i) V = nI (sOr (sFit ln lt z gd) nw)) nw (fun f => ?_) (fun f i hi ih => ?_) nw 1000 0 (by omega) (by omega)
  · have e : V 2 0 ≤ nI nw := by rw [cw_sz h]; exact nI_le (Nat.le_refl _) (by omega)
    exact ⟨fun q => absurd e q, if_pos e⟩
  · have e : ¬ V 2 0 ≤ nI i := by rw [cw_sz h]; exact nI_ge hi (by omega)
    obtain ⟨hP, hM⟩ := cw_looks h hz hi hg
    simp only [PX7_fitting_5, BX7_fitting_5, PX7_fitting_32, BX7_fitting_32, hM, if_neg e, pu_sh1 i (by omega), pu_or, nI_1]
    have e1 : ¬ (1 : Int32) = 0 := by decide
    cases hx : sFit ln lt z gd i with
    | true =>
      rw [sOr, if_pos hx] at ih
      simp [e, e1, hP, ih]
    | false =>
      rw [sOr, if_neg (by rw [hx]; decide), Nat.or_zero] at ih
      simp [e, hP, ih]
theorem cw_having (h : cW V nw ln wt lt) {set c : Nat} (hs : set < 2 ^ 31) (hc : c < 2 ^ 31) : PX7_weightHaving (nI set) (nI c) V ∧ MX7_weightHaving (nI set) (nI c) V = nI (sWhv nw ln wt lt set c) := by
  have hn := h.1
  unfold PX7_weightHaving MX7_weightHaving sWhv
  refine pu_loop (fun f i => PX7_weightHaving_5 f (nI set) (nI c) (nI (sSum (fun w => if set.testBit w = true ∧ sPl ln lt w c ≠ 0 then wt w else 0) i)) (nI i) V ∧ BX7_weightHaving_5 f (nI set) (nI c) (nI (sSum (fun w => if set.testBit w = true ∧ sPl ln lt w c ≠ 0 then wt w else 0) i)) (nI i) V = nI (sSum (fun w => if set.testBit w = true ∧ sPl ln lt w c ≠ 0 then wt w else 0) nw)) nw (fun f => ?_) (fun f i hi ih => ?_) nw 1000 0 (by omega) (by omega)
  · have e : V 2 0 ≤ nI nw := by rw [cw_sz h]; exact nI_le (Nat.le_refl _) (by omega)
    exact ⟨fun q => absurd e q, if_pos e⟩
  · have e : ¬ V 2 0 ≤ nI i := by rw [cw_sz h]; exact nI_ge hi (by omega)
    obtain ⟨hP, hM⟩ := cw_places h hi hc
    have hb := sPl_lt (lt := lt) (c := c) (cw_ln h hi).2
    have h0 : (nI (sPl ln lt i c) = 0) ↔ sPl ln lt i c = 0 := nI_eq (b := 0) (by omega) (by omega)
    have e1 : ¬ (1 : Int32) = 0 := by decide
    simp only [PX7_weightHaving_5, BX7_weightHaving_5, PX7_weightHaving_45, BX7_weightHaving_45, hM, cw_wt h hi, if_neg e, pu_hold hs (show i < 31 by omega), nI_1, nI_add, h0]
    rw [sSum] at ih
    cases hx : set.testBit i with
    | true =>
      by_cases hy : sPl ln lt i c = 0
      · rw [if_neg (by simp [hy]), Nat.add_zero] at ih
        simp [e, e1, hP, hy, ih]
      · rw [if_pos ⟨hx, hy⟩] at ih
        simp [e, e1, hP, hy, ih]
    | false =>
      rw [if_neg (by simp [hx]), Nat.add_zero] at ih
      simp [e, ih]
theorem cw_group (h : cW V nw ln wt lt) {set c w : Nat} (hw : w < nw) (hs : set < 2 ^ 31) (hc : c < 2 ^ 31) : PX7_groupOf (nI set) (nI c) (nI w) V ∧ MX7_groupOf (nI set) (nI c) (nI w) V = nI (sGrp nw ln lt set c w) := by
  have hn := h.1
  have hbw := sPl_lt (lt := lt) (c := c) (cw_ln h hw).2
  obtain ⟨hPw, hMw⟩ := cw_places h hw hc
  unfold PX7_groupOf MX7_groupOf sGrp
  rw [hMw]
  have key := pu_loop (fun f i => PX7_groupOf_14 f (nI set) (nI c) (nI (sPl ln lt w c)) (nI (sSum (fun v => if set.testBit v = true ∧ sPl ln lt v c = sPl ln lt w c then 1 else 0) i)) (nI i) V ∧ BX7_groupOf_14 f (nI set) (nI c) (nI (sPl ln lt w c)) (nI (sSum (fun v => if set.testBit v = true ∧ sPl ln lt v c = sPl ln lt w c then 1 else 0) i)) (nI i) V = nI (sSum (fun v => if set.testBit v = true ∧ sPl ln lt v c = sPl ln lt w c then 1 else 0) nw)) nw (fun f => ?_) (fun f i hi ih => ?_) nw 1000 0 (by omega) (by omega)
  · exact ⟨⟨hPw, key.1⟩, key.2⟩
  · have e : V 2 0 ≤ nI nw := by rw [cw_sz h]; exact nI_le (Nat.le_refl _) (by omega)
    exact ⟨fun q => absurd e q, if_pos e⟩
  · have e : ¬ V 2 0 ≤ nI i := by rw [cw_sz h]; exact nI_ge hi (by omega)
    obtain ⟨hP, hM⟩ := cw_places h hi hc
    have hb := sPl_lt (lt := lt) (c := c) (cw_ln h hi).2
    have e1 : ¬ (1 : Int32) = 0 := by decide
    simp only [PX7_groupOf_14, BX7_groupOf_14, PX7_groupOf_47, BX7_groupOf_47, hM, if_neg e, pu_hold hs (show i < 31 by omega), nI_1, nI_eq (show sPl ln lt i c < 2 ^ 31 by omega) (show sPl ln lt w c < 2 ^ 31 by omega)]
    rw [sSum] at ih
    cases hx : set.testBit i with
    | true =>
      by_cases hy : sPl ln lt i c = sPl ln lt w c
      · rw [if_pos ⟨hx, hy⟩] at ih
        simp [e, e1, hP, hy, ih]
      · rw [if_neg (fun q => hy q.2), Nat.add_zero] at ih
        simp [e, e1, hP, hy, ih]
    | false =>
      rw [if_neg (by simp [hx]), Nat.add_zero] at ih
      simp [e, ih]
theorem sGrp_le {set c w : Nat} : sGrp nw ln lt set c w ≤ nw := by
  have := sSum_le (f := fun v => if set.testBit v = true ∧ sPl ln lt v c = sPl ln lt w c then 1 else 0) (b := 1) (n := nw) (fun v _ => by
    show (if _ then 1 else 0) ≤ 1
    split <;> omega)
  unfold sGrp
  omega
theorem sLrg_i {set c i : Nat} : sMax (fun w => if set.testBit w = true then sGrp nw ln lt set c w else 0) i ≤ nw := sMax_le (fun w _ => by
    show (if _ then _ else 0) ≤ nw
    split
    · exact sGrp_le
    · omega)
theorem cw_largest (h : cW V nw ln wt lt) {set c : Nat} (hs : set < 2 ^ 31) (hc : c < 2 ^ 31) : PX7_largestGroup (nI set) (nI c) V ∧ MX7_largestGroup (nI set) (nI c) V = nI (sLrg nw ln lt set c) := by
  have hn := h.1
  unfold PX7_largestGroup MX7_largestGroup sLrg
  refine pu_loop (fun f i => PX7_largestGroup_5 f (nI set) (nI c) (nI (sMax (fun w => if set.testBit w = true then sGrp nw ln lt set c w else 0) i)) (nI i) V ∧ BX7_largestGroup_5 f (nI set) (nI c) (nI (sMax (fun w => if set.testBit w = true then sGrp nw ln lt set c w else 0) i)) (nI i) V = nI (sMax (fun w => if set.testBit w = true then sGrp nw ln lt set c w else 0) nw)) nw (fun f => ?_) (fun f i hi ih => ?_) nw 1000 0 (by omega) (by omega)
  · have e : V 2 0 ≤ nI nw := by rw [cw_sz h]; exact nI_le (Nat.le_refl _) (by omega)
    exact ⟨fun q => absurd e q, if_pos e⟩
  · have e : ¬ V 2 0 ≤ nI i := by rw [cw_sz h]; exact nI_ge hi (by omega)
    obtain ⟨hP, hM⟩ := cw_group h hi hs hc
    have b1 := sGrp_le (nw := nw) (ln := ln) (lt := lt) (set := set) (c := c) (w := i)
    have b2 := sLrg_i (nw := nw) (ln := ln) (lt := lt) (set := set) (c := c) (i := i)
    have e1 : ¬ (1 : Int32) = 0 := by decide
    simp only [PX7_largestGroup_5, BX7_largestGroup_5, PX7_largestGroup_36, BX7_largestGroup_36, hM, if_neg e, pu_hold hs (show i < 31 by omega), nI_1, nI_ltI (show _ < 2 ^ 31 from Nat.lt_of_le_of_lt b2 (by omega)) (show _ < 2 ^ 31 from Nat.lt_of_le_of_lt b1 (by omega))]
    rw [sMax] at ih
    cases hx : set.testBit i with
    | true =>
      simp only [hx, if_true] at ih
      by_cases hy : sMax (fun w => if set.testBit w = true then sGrp nw ln lt set c w else 0) i < sGrp nw ln lt set c i
      · rw [if_pos hy] at ih
        simp [e, e1, hP, hy, ih]
      · rw [if_neg hy] at ih
        simp [e, e1, hP, hy, ih]
    | false =>
      simp [hx] at ih
      simp [e, ih]
theorem sLS_lt {g : Nat → Nat} : ∀ {n}, (∀ i, i < n → g i < 26) → sLS g n < 2 ^ 26
  | 0, _ => by show (0 : Nat) < 2 ^ 26; decide
  | n + 1, h => Nat.or_lt_two_pow (sLS_lt (fun i hi => h i (by omega))) (Nat.pow_lt_pow_right (by omega) (h n (by omega)))
theorem cw_letterSet (h : cW V nw ln wt lt) {w : Nat} (hw : w < nw) : PX7_letterSet (nI w) V ∧ MX7_letterSet (nI w) V = nI (sLS (lt w) (ln w)) := by
  have hL := (cw_ln h hw).2
  unfold PX7_letterSet MX7_letterSet
  rw [cw_len h hw]
  refine pu_loop (fun f i => PX7_letterSet_14 f (nI w) (nI (sLS (lt w) i)) (nI (ln w)) (nI i) V ∧ BX7_letterSet_14 f (nI w) (nI (sLS (lt w) i)) (nI (ln w)) (nI i) V = nI (sLS (lt w) (ln w))) (ln w) (fun f => ?_) (fun f i hi ih => ?_) (ln w) 1000 0 (by omega) (by omega)
  · have e : nI (ln w) ≤ nI (ln w) := nI_le (Nat.le_refl _) (by omega)
    exact ⟨fun q => absurd e q, if_pos e⟩
  · have e := nI_ge hi (by omega)
    have hb := cw_ltb h hw hi
    rw [sLS] at ih
    simp only [PX7_letterSet_14, BX7_letterSet_14, cw_lt h hw hi, if_neg e, pu_sh1 (lt w i) (by omega), pu_or, nI_1]
    simp [e, ih]
end CW3
