section CW2
variable {V : gV} {nw : Nat} {ln wt : Nat → Nat} {lt : Nat → Nat → Nat}
theorem cw_sz (h : cW V nw ln wt lt) : V 2 0 = nI nw := h.2.1
theorem sWof_lt (h : cW V nw ln wt lt) (set : Nat) {i : Nat} (hi : i ≤ nw) : sSum (fun w => if set.testBit w = true then wt w else 0) i ≤ 1584 := by
  have h1 := sSum_le (f := fun w => if set.testBit w = true then wt w else 0) (b := 99) (n := i) (fun w hw => by
    have := (h.2.2 w (by omega)).2.2.2.1
    show (if set.testBit w = true then wt w else 0) ≤ 99
    split <;> omega)
  have := h.1
  omega
theorem cw_weightOf (h : cW V nw ln wt lt) {set : Nat} (hs : set < 2 ^ 31) : PX7_weightOf (nI set) V ∧ MX7_weightOf (nI set) V = nI (sWof nw wt set) := by
  have hn := h.1
  unfold PX7_weightOf MX7_weightOf sWof
  refine pu_loop (fun f i => PX7_weightOf_4 f (nI set) (nI (sSum (fun w => if set.testBit w = true then wt w else 0) i)) (nI i) V ∧ BX7_weightOf_4 f (nI set) (nI (sSum (fun w => if set.testBit w = true then wt w else 0) i)) (nI i) V = nI (sSum (fun w => if set.testBit w = true then wt w else 0) nw)) nw (fun f => ?_) (fun f i hi ih => ?_) nw 1000 0 (by omega) (by omega)
  · have e : V 2 0 ≤ nI nw := by rw [cw_sz h]; exact nI_le (Nat.le_refl _) (by omega)
    exact ⟨fun q => absurd e q, if_pos e⟩
  · have e : ¬ V 2 0 ≤ nI i := by rw [cw_sz h]; exact nI_ge hi (by omega)
    simp only [PX7_weightOf_4, BX7_weightOf_4, PX7_weightOf_31, BX7_weightOf_31, cw_wt h hi, if_neg e, pu_hold hs (show i < 31 by omega), nI_1, nI_add]
    cases hx : set.testBit i with
    | true =>
      rw [sSum, if_pos hx] at ih
      simp [e, ih]
    | false =>
      rw [sSum, if_neg (by rw [hx]; decide), Nat.add_zero] at ih
      simp [e, ih]
theorem cw_weightSum (h : cW V nw ln wt lt) : PX7_weightSum V ∧ MX7_weightSum V = nI (sSum wt nw) := by
  have hn := h.1
  unfold PX7_weightSum MX7_weightSum PX7_weightOf MX7_weightOf
  refine pu_loop (fun f i => PX7_weightOf_4 f (-1) (nI (sSum wt i)) (nI i) V ∧ BX7_weightOf_4 f (-1) (nI (sSum wt i)) (nI i) V = nI (sSum wt nw)) nw (fun f => ?_) (fun f i hi ih => ?_) nw 1000 0 (by omega) (by omega)
  · have e : V 2 0 ≤ nI nw := by rw [cw_sz h]; exact nI_le (Nat.le_refl _) (by omega)
    exact ⟨fun q => absurd e q, if_pos e⟩
  · have e : ¬ V 2 0 ≤ nI i := by rw [cw_sz h]; exact nI_ge hi (by omega)
    simp only [PX7_weightOf_4, BX7_weightOf_4, PX7_weightOf_31, BX7_weightOf_31, cw_wt h hi, if_neg e, pu_holdm (show i < 31 by omega), nI_1, nI_add]
    rw [sSum] at ih
    have e1 : ¬ (1 : Int32) = 0 := by decide
    simp [e, e1, ih]
theorem cw_sum (h : cW V nw ln wt lt) : sSum wt nw ≤ 1584 := by
  have h1 := sSum_le (f := wt) (b := 99) (n := nw) (fun w hw => (h.2.2 w hw).2.2.2.1)
  have := h.1
  omega
theorem cw_pos (h : cW V nw ln wt lt) (hn : 0 < nw) : 0 < sSum wt nw := by
  have h1 := sSum_mono (f := wt) (show 1 ≤ nw by omega)
  have h2 := (h.2.2 0 hn).2.2.1
  have h3 : sSum wt 1 = 0 + wt 0 := rfl
  omega
/-- a sum of weights above r has a word where it comes to be above r -/
theorem sPick {f : Nat → Nat} {n r : Nat} (h : r < sSum f n) : ∃ w, w < n ∧ sSum f w ≤ r ∧ r < sSum f (w + 1) := by
  induction n with
  | zero => rw [sSum] at h; omega
  | succ n ih =>
    by_cases h2 : r < sSum f n
    · obtain ⟨w, h3, h4⟩ := ih h2
      exact ⟨w, by omega, h4⟩
    · exact ⟨n, by omega, by omega, h⟩
theorem cw_drawn (h : cW V nw ln wt lt) {r w : Nat} (hw : w < nw) (h1 : sSum wt w ≤ r) (h2 : r < sSum wt (w + 1)) : PX7_drawnBy_26 1000 (nI r) (nI 0) (nI 0) V ∧ BX7_drawnBy_26 1000 (nI r) (nI 0) (nI 0) V = nI w := by
  have hn := h.1
  have hs := cw_sum h
  have hm := sSum_mono (f := wt) (show w + 1 ≤ nw by omega)
  refine pu_loop (fun f i => PX7_drawnBy_26 f (nI r) (nI (sSum wt i)) (nI i) V ∧ BX7_drawnBy_26 f (nI r) (nI (sSum wt i)) (nI i) V = nI w) w (fun f => ?_) (fun f i hi ih => ?_) w 1000 0 (by omega) (by omega)
  · have e : ¬ V 2 0 ≤ nI w := by rw [cw_sz h]; exact nI_ge hw (by omega)
    have e2 : ¬ nI (sSum wt w) + nI (wt w) ≤ nI r := by
      rw [nI_add]
      exact nI_ge h2 (by rw [sSum] at hm; omega)
    simp only [PX7_drawnBy_26, BX7_drawnBy_26, cw_wt h hw, if_neg e, if_neg e2]
    simp [e, e2]
  · have e : ¬ V 2 0 ≤ nI i := by rw [cw_sz h]; exact nI_ge (show i < nw by omega) (by omega)
    have hm2 := sSum_mono (f := wt) (show i + 1 ≤ w by omega)
    have e2 : nI (sSum wt i) + nI (wt i) ≤ nI r := by
      rw [nI_add]
      refine nI_le ?_ (by omega)
      rw [sSum] at hm2
      omega
    simp only [PX7_drawnBy_26, BX7_drawnBy_26, cw_wt h (show i < nw by omega), if_neg e, if_pos e2, nI_add, nI_1]
    rw [sSum] at ih
    rw [nI_add] at e2
    simp [e, e2, ih]
theorem fb_bmodC {z : Int} (h1 : -2147483648 ≤ z) (h2 : z < 2147483648) : z.bmod (2 ^ 32) = z := by
  rw [Int.bmod_def]
  split <;> omega
theorem pu_div {a b : Nat} (ha : a < 2 ^ 31) (hb : b < 2 ^ 31) : nI a / nI b = nI (a / b) := by
  apply Int32.toInt_inj.mp
  have h1 : a / b ≤ a := Nat.div_le_self a b
  rw [Int32.toInt_div, nI_toInt ha, nI_toInt hb, nI_toInt (by omega)]
  rw [← Int.ofNat_tdiv]
  have key : ∀ q : Nat, q ≤ a → (q : Int).bmod (2 ^ 32) = q := fun q hq => fb_bmodC (by omega) (by omega)
  exact key _ h1
theorem pu_rem {a b : Nat} (ha : a < 2 ^ 31) (hb : b < 2 ^ 31) : nI a - nI a / nI b * nI b = nI (a % b) := by
  have h1 : a / b * b ≤ a := Nat.div_mul_le_self a b
  rw [pu_div ha hb, pu_mul, pu_sub h1]
  have := Nat.div_add_mod a b
  have h2 : b * (a / b) = a / b * b := Nat.mul_comm _ _
  congr 1
  omega
theorem cw_drawnBy (h : cW V nw ln wt lt) (hn : 0 < nw) {d : Nat} (hd : d < 2 ^ 31) : ∃ w, w < nw ∧ sSum wt w ≤ d / 65536 % sSum wt nw ∧ d / 65536 % sSum wt nw < sSum wt (w + 1) ∧ PX7_drawnBy (nI d) V ∧ MX7_drawnBy (nI d) V = nI w := by
  have hs := cw_sum h
  have hp := cw_pos h hn
  obtain ⟨hP, hM⟩ := cw_weightSum h
  obtain ⟨w, hw, h1, h2⟩ := sPick (Nat.mod_lt (d / 65536) hp)
  refine ⟨w, hw, h1, h2, ?_⟩
  have hd2 : d / 65536 < 2 ^ 31 := Nat.lt_of_le_of_lt (Nat.div_le_self _ _) hd
  have e : ¬ nI (sSum wt nw) ≤ 0 := nI_nle hp (by omega)
  have e0 : ¬ nI (sSum wt nw) = 0 := nI_ne0 hp (by omega)
  have k := cw_drawn h hw h1 h2
  unfold PX7_drawnBy MX7_drawnBy PX7_drawnBy_19 BX7_drawnBy_19
  rw [hM, if_neg e, show (65536 : Int32) = nI 65536 from rfl, pu_div hd (by omega), pu_rem hd2 (by omega)]
  exact ⟨⟨hP, fun q => absurd q e, fun _ => ⟨e0, k.1⟩⟩, k.2⟩
theorem cw_looks (h : cW V nw ln wt lt) {z gd w : Nat} (hz : z < nw) (hw : w < nw) (hg : gd < 2 ^ 26) : PX7_looksLike (nI w) (nI z) (nI gd) V ∧ MX7_looksLike (nI w) (nI z) (nI gd) V = if sFit ln lt z gd w = true then 1 else 0 := by
  have hL := (cw_ln h hz).2
  have hL2 := (cw_ln h hw).2
  have hg2 : gd < 2 ^ 31 := by omega
  unfold PX7_looksLike MX7_looksLike sFit
  rw [cw_len h hw, cw_len h hz]
  by_cases hl : ln w = ln z
  · have e : nI (ln w) = nI (ln z) := by rw [hl]
    rw [if_pos e, decide_eq_true hl, Bool.true_and]
    have key := pu_loop (fun f i => sAll (fun k => if gd.testBit (lt z k) = true then decide (lt w k = lt z k) else !gd.testBit (lt w k)) i = true → PX7_looksLike_28 f (nI w) (nI z) (nI gd) (nI (ln z)) (nI i) V ∧ BX7_looksLike_28 f (nI w) (nI z) (nI gd) (nI (ln z)) (nI i) V = if sAll (fun k => if gd.testBit (lt z k) = true then decide (lt w k = lt z k) else !gd.testBit (lt w k)) (ln z) = true then 1 else 0) (ln z) (fun f hq => ?_) (fun f i hi ih hq => ?_) (ln z) 1000 0 (by omega) (by omega) rfl
    · exact ⟨fun _ => key.1, key.2⟩
    · have e : nI (ln z) ≤ nI (ln z) := nI_le (Nat.le_refl _) (by omega)
      rw [if_pos hq]
      exact ⟨fun q => absurd e q, if_pos e⟩
    · have e := nI_ge hi (by omega)
      have hi2 : i < ln w := by omega
      have b1 := cw_ltb h hz hi
      have b2 := cw_ltb h hw hi2
      have e1 : ¬ (1 : Int32) = 0 := by decide
      simp only [PX7_looksLike_28, BX7_looksLike_28, PX7_looksLike_91, BX7_looksLike_91, cw_lt h hz hi, cw_lt h hw hi2, if_neg e, pu_hold hg2 (show lt z i < 31 by omega), pu_hold hg2 (show lt w i < 31 by omega), nI_1, nI_eq (show lt w i < 2 ^ 31 by omega) (show lt z i < 2 ^ 31 by omega)]
      rw [sAll, hq, Bool.true_and] at ih
      have hbad : ∀ (hx : (if gd.testBit (lt z i) = true then decide (lt w i = lt z i) else !gd.testBit (lt w i)) = false), sAll (fun k => if gd.testBit (lt z k) = true then decide (lt w k = lt z k) else !gd.testBit (lt w k)) (ln z) = false := fun hx => sAll_f hi hx
      cases hx : gd.testBit (lt z i) with
      | true =>
        by_cases hy : lt w i = lt z i
        · simp [hx, hy] at ih
          simp [e, e1, hy, ih]
        · have hb := hbad (by simp [hx, hy])
          simp [e, e1, hy, hb]
      | false =>
        cases hy : gd.testBit (lt w i) with
        | true =>
          have hb := hbad (by simp [hx, hy])
          simp [e, e1, hb]
        | false =>
          simp [hx, hy] at ih
          simp [e, e1, ih]
  · have e : ¬ nI (ln w) = nI (ln z) := fun q => hl ((nI_eq (by omega) (by omega)).mp q)
    rw [if_neg e, decide_eq_false hl, Bool.false_and]
    exact ⟨fun q => absurd q e, rfl⟩
end CW2
