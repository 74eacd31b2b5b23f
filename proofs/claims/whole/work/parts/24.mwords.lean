theorem pc0 : (0 : Int32).toNatClampNeg = 0 := by decide
theorem pc1 : (1 : Int32).toNatClampNeg = 1 := by decide
theorem pc2 : (2 : Int32).toNatClampNeg = 2 := by decide
theorem pc3 : (3 : Int32).toNatClampNeg = 3 := by decide
theorem pc4 : (4 : Int32).toNatClampNeg = 4 := by decide
theorem pc5 : (5 : Int32).toNatClampNeg = 5 := by decide
theorem pc6 : (6 : Int32).toNatClampNeg = 6 := by decide
theorem pc7 : (7 : Int32).toNatClampNeg = 7 := by decide
theorem pc8 : (8 : Int32).toNatClampNeg = 8 := by decide
theorem pc9 : (9 : Int32).toNatClampNeg = 9 := by decide
theorem pc10 : (10 : Int32).toNatClampNeg = 10 := by decide
theorem pc11 : (11 : Int32).toNatClampNeg = 11 := by decide
theorem pc12 : (12 : Int32).toNatClampNeg = 12 := by decide
theorem pc13 : (13 : Int32).toNatClampNeg = 13 := by decide
theorem pc14 : (14 : Int32).toNatClampNeg = 14 := by decide
theorem pc15 : (15 : Int32).toNatClampNeg = 15 := by decide
theorem pu_shr0 {n k : Nat} (hn : n < 2 ^ 31) (hk : k < 31) : ((nI n >>> (nI k &&& 31)) &&& 1) = 0 ↔ n.testBit k = false := by
  rw [pk_shrN hn (nI k &&& 31) k (pu_sl k (by omega)), show (1 : Int32) = nI 1 from rfl, pu_and, show (0 : Int32) = nI 0 from rfl, nI_eq (Nat.lt_of_le_of_lt Nat.and_le_right (by omega)) (by omega), Nat.and_one_is_mod, Nat.testBit_eq_decide_div_mod_eq, decide_eq_false_iff_not]
  omega
/-- the reference's words are these -/
def mW (V : gV) (nw : Nat) (ln wt : Nat → Nat) (lt : Nat → Nat → Nat) : Prop := nw ≤ 16 ∧ V 214 0 = nI nw ∧ ∀ w, w < nw → 2 ≤ ln w ∧ ln w ≤ 8 ∧ 1 ≤ wt w ∧ wt w ≤ 99 ∧ V 214 (16 + 11 * w) = nI (ln w) ∧ V 214 (16 + 11 * w + 1) = nI (wt w) ∧ ∀ k, k < ln w → lt w k < 26 ∧ V 214 (16 + 11 * w + (3 + k)) = nI (lt w k)
section MW
variable {V : gV} {nw : Nat} {ln wt : Nat → Nat} {lt : Nat → Nat → Nat}
theorem mw_of {w j : Nat} (hw : w < 16) (hj : j < 11) : PX9_of (nI w) (nI j) V ∧ MX9_of (nI w) (nI j) V = V 214 (16 + 11 * w + j) := by
  unfold PX9_of MX9_of
  rw [show (16 : Int32) = nI 16 from rfl, show (11 : Int32) = nI 11 from rfl, pu_mul, nI_add, nI_add, nI_clamp (by omega)]
  exact ⟨pu_in (by omega) (by omega), rfl⟩
theorem mw_sz (h : mW V nw ln wt lt) : V 214 0 = nI nw := h.2.1
theorem mw_ln (h : mW V nw ln wt lt) {w : Nat} (hw : w < nw) : 2 ≤ ln w ∧ ln w ≤ 8 := ⟨(h.2.2 w hw).1, (h.2.2 w hw).2.1⟩
theorem mw_len (h : mW V nw ln wt lt) {w : Nat} (hw : w < nw) : PX9_of (nI w) 0 V ∧ MX9_of (nI w) 0 V = nI (ln w) := by
  have h1 := mw_of (V := V) (w := w) (j := 0) (Nat.lt_of_lt_of_le hw h.1) (by omega)
  rw [← (h.2.2 w hw).2.2.2.2.1]
  exact h1
theorem mw_wt (h : mW V nw ln wt lt) {w : Nat} (hw : w < nw) : PX9_of (nI w) 1 V ∧ MX9_of (nI w) 1 V = nI (wt w) := by
  have h1 := mw_of (V := V) (w := w) (j := 1) (Nat.lt_of_lt_of_le hw h.1) (by omega)
  rw [← (h.2.2 w hw).2.2.2.2.2.1]
  exact h1
theorem mw_lt (h : mW V nw ln wt lt) {w k : Nat} (hw : w < nw) (hk : k < ln w) : PX9_letterAt (nI w) (nI k) V ∧ MX9_letterAt (nI w) (nI k) V = nI (lt w k) := by
  have hL := (mw_ln h hw).2
  have h1 := mw_of (V := V) (w := w) (j := 3 + k) (Nat.lt_of_lt_of_le hw h.1) (by omega)
  unfold PX9_letterAt MX9_letterAt
  rw [show (3 : Int32) = nI 3 from rfl, nI_add, ← ((h.2.2 w hw).2.2.2.2.2.2 k hk).2]
  exact h1
theorem mw_ltb (h : mW V nw ln wt lt) {w k : Nat} (hw : w < nw) (hk : k < ln w) : lt w k < 26 := ((h.2.2 w hw).2.2.2.2.2.2 k hk).1
theorem mw_places (h : mW V nw ln wt lt) {w c : Nat} (hw : w < nw) (hc : c < 2 ^ 31) : PX9_places (nI w) (nI c) V ∧ MX9_places (nI w) (nI c) V = nI (sPl ln lt w c) := by
  have hL := (mw_ln h hw).2
  obtain ⟨hP0, hM0⟩ := mw_len h hw
  unfold PX9_places MX9_places sPl
  refine pu_loop (fun f i => PX9_places_5 f (nI w) (nI c) (nI (sOr (fun k => decide (lt w k = c)) i)) (nI i) V ∧ BX9_places_5 f (nI w) (nI c) (nI (sOr (fun k => decide (lt w k = c)) i)) (nI i) V = nI (sOr (fun k => decide (lt w k = c)) (ln w))) (ln w) (fun f => ?_) (fun f i hi ih => ?_) (ln w) 1000 0 (by omega) (by omega)
  · have e : nI (ln w) ≤ nI (ln w) := nI_le (Nat.le_refl _) (by omega)
    simp only [PX9_places_5, BX9_places_5, hM0]
    simp [e, hP0]
  · have e := nI_ge hi (by omega)
    have hb := mw_ltb h hw hi
    obtain ⟨hPl, hMl⟩ := mw_lt h hw hi
    simp only [PX9_places_5, BX9_places_5, PX9_places_36, BX9_places_36, hM0, hMl, if_neg e, pu_sh1 i (by omega), pu_or, nI_1, Int32.or_zero, nI_eq (show lt w i < 2 ^ 31 by omega) hc]
    by_cases hx : lt w i = c
    · rw [sOr, if_pos (decide_eq_true hx)] at ih
      simp [e, hP0, hPl, hx, ih]
    · rw [sOr, if_neg (fun q => hx (of_decide_eq_true q)), Nat.or_zero] at ih
      simp [e, hP0, hPl, hx, ih]
theorem mw_weights (h : mW V nw ln wt lt) : PX9_weights V ∧ MX9_weights V = nI (sSum wt nw) := by
  have hn := h.1
  unfold PX9_weights MX9_weights
  refine pu_loop (fun f i => PX9_weights_4 f (nI (sSum wt i)) (nI i) V ∧ BX9_weights_4 f (nI (sSum wt i)) (nI i) V = nI (sSum wt nw)) nw (fun f => ?_) (fun f i hi ih => ?_) nw 1000 0 (by omega) (by omega)
  · have e : nI nw ≤ nI nw := nI_le (Nat.le_refl _) (by omega)
    simp only [PX9_weights_4, BX9_weights_4, pc0, mw_sz h]
    simp [e]
  · have e := nI_ge hi (by omega)
    obtain ⟨hP, hM⟩ := mw_wt h hi
    simp only [PX9_weights_4, BX9_weights_4, pc0, mw_sz h, hM, nI_1, nI_add]
    rw [sSum] at ih
    simp [e, hP, ih]
theorem mw_sum (h : mW V nw ln wt lt) : sSum wt nw ≤ 1584 := by
  have h1 := sSum_le (f := wt) (b := 99) (n := nw) (fun w hw => (h.2.2 w hw).2.2.2.1)
  have := h.1
  omega
theorem mw_pos (h : mW V nw ln wt lt) (hn : 0 < nw) : 0 < sSum wt nw := by
  have h1 := sSum_mono (f := wt) (show 1 ≤ nw by omega)
  have h2 := (h.2.2 0 hn).2.2.1
  have h3 : sSum wt 1 = 0 + wt 0 := rfl
  omega
theorem mw_wordBy (h : mW V nw ln wt lt) {d w : Nat} (hd : d < 2 ^ 31) (hw : w < nw) (h1 : sSum wt w ≤ d / 65536 % sSum wt nw) (h2 : d / 65536 % sSum wt nw < sSum wt (w + 1)) : PX9_wordBy (nI d) V ∧ MX9_wordBy (nI d) V = nI w := by
  have hn := h.1
  have hs := mw_sum h
  have hp := mw_pos h (by omega)
  obtain ⟨hP, hM⟩ := mw_weights h
  have hd2 : d / 65536 < 2 ^ 31 := Nat.lt_of_le_of_lt (Nat.div_le_self _ _) hd
  have e0 : ¬ nI (sSum wt nw) = 0 := nI_ne0 hp (by omega)
  have hr : d / 65536 % sSum wt nw < sSum wt nw := Nat.mod_lt _ hp
  unfold PX9_wordBy MX9_wordBy
  rw [hM, show (65536 : Int32) = nI 65536 from rfl, pu_div hd (by omega), pu_rem hd2 (by omega)]
  generalize d / 65536 % sSum wt nw = r at h1 h2 hr
  have key := pu_loop (fun f i => PX9_wordBy_12 f (nI (r - sSum wt i)) (nI i) V ∧ BX9_wordBy_12 f (nI (r - sSum wt i)) (nI i) V = nI w) w (fun f => ?_) (fun f i hi ih => ?_) w 1000 0 (by omega) (by omega)
  · exact ⟨⟨hP, e0, key.1⟩, key.2⟩
  · obtain ⟨hPw, hMw⟩ := mw_wt h hw
    rw [sSum] at h2
    have e : nI (r - sSum wt w) < nI (wt w) := nI_lt (by omega) (by have := (h.2.2 w hw).2.2.2.1; omega)
    simp only [PX9_wordBy_12, BX9_wordBy_12, hMw]
    simp [e, hPw]
  · obtain ⟨hPw, hMw⟩ := mw_wt h (show i < nw by omega)
    have hm2 := sSum_mono (f := wt) (show i + 1 ≤ w by omega)
    rw [sSum] at hm2
    have e : ¬ nI (r - sSum wt i) < nI (wt i) := nI_nlt (by omega) (by omega)
    simp only [PX9_wordBy_12, BX9_wordBy_12, hMw, nI_1]
    rw [sSum, ← Nat.sub_sub] at ih
    rw [pu_sub (show wt i ≤ r - sSum wt i by omega)]
    simp [e, hPw, ih]
end MW
