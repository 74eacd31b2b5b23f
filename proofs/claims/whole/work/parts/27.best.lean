/-- the letter that fits most (and one more than how much; 0: none yet), the letter that leaves least -/
def sB (tk : Nat → Bool) (val : Nat → Nat) (b0 : Int32) : Nat → Int32 × Nat
  | 0 => (b0, 0)
  | i + 1 => if tk i = true ∧ (sB tk val b0 i).2 < val i + 1 then (nI i, val i + 1) else sB tk val b0 i
def sC (tk : Nat → Bool) (val : Nat → Nat) (b0 : Int32) : Nat → Int32 × Nat
  | 0 => (b0, 17)
  | i + 1 => if tk i = true ∧ val i < (sC tk val b0 i).2 then (nI i, val i) else sC tk val b0 i
theorem sB_eq {tk : Nat → Bool} {val : Nat → Nat} {b b2 : Int32} : ∀ n, (sB tk val b n).2 = (sB tk val b2 n).2 ∧ ((sB tk val b n).1 = (sB tk val b2 n).1 ∨ ((sB tk val b n).2 = 0 ∧ ∀ j, j < n → tk j = false))
  | 0 => ⟨rfl, Or.inr ⟨rfl, fun j hj => absurd hj (Nat.not_lt_zero j)⟩⟩
  | n + 1 => by
    obtain ⟨h1, h2⟩ := sB_eq (tk := tk) (val := val) (b := b) (b2 := b2) n
    rw [sB, sB, ← h1]
    by_cases hc : tk n = true ∧ (sB tk val b n).2 < val n + 1
    · rw [if_pos hc, if_pos hc]
      exact ⟨rfl, Or.inl rfl⟩
    · rw [if_neg hc, if_neg hc]
      refine ⟨h1, ?_⟩
      rcases h2 with h2 | ⟨h2, h3⟩
      · exact Or.inl h2
      · refine Or.inr ⟨h2, fun j hj => ?_⟩
        by_cases e : j = n
        · subst e
          cases ht : tk j with
          | false => rfl
          | true => exact absurd ⟨ht, by omega⟩ hc
        · exact h3 j (by omega)
theorem sB_one {tk : Nat → Bool} {val : Nat → Nat} {b b2 : Int32} {j n : Nat} (hj : j < n) (ht : tk j = true) : (sB tk val b n).1 = (sB tk val b2 n).1 := by
  rcases (sB_eq (tk := tk) (val := val) (b := b) (b2 := b2) n).2 with h | ⟨-, h⟩
  · exact h
  · rw [h j hj] at ht; cases ht
theorem sC_le {tk : Nat → Bool} {val : Nat → Nat} {b : Int32} (hv : ∀ i, val i ≤ 16) : ∀ n, (sC tk val b n).2 ≤ 17
  | 0 => Nat.le_refl _
  | n + 1 => by
    rw [sC]
    split
    · have := hv n
      show val n ≤ 17
      omega
    · exact sC_le hv n
theorem sC_eq {tk : Nat → Bool} {val : Nat → Nat} {b b2 : Int32} (hv : ∀ i, val i ≤ 16) : ∀ n, (sC tk val b n).2 = (sC tk val b2 n).2 ∧ ((sC tk val b n).1 = (sC tk val b2 n).1 ∨ ((sC tk val b n).2 = 17 ∧ ∀ j, j < n → tk j = false))
  | 0 => ⟨rfl, Or.inr ⟨rfl, fun j hj => absurd hj (Nat.not_lt_zero j)⟩⟩
  | n + 1 => by
    obtain ⟨h1, h2⟩ := sC_eq (tk := tk) (b := b) (b2 := b2) hv n
    rw [sC, sC, ← h1]
    by_cases hc : tk n = true ∧ val n < (sC tk val b n).2
    · rw [if_pos hc, if_pos hc]
      exact ⟨rfl, Or.inl rfl⟩
    · rw [if_neg hc, if_neg hc]
      refine ⟨h1, ?_⟩
      rcases h2 with h2 | ⟨h2, h3⟩
      · exact Or.inl h2
      · refine Or.inr ⟨h2, fun j hj => ?_⟩
        by_cases e : j = n
        · subst e
          cases ht : tk j with
          | false => rfl
          | true => exact absurd ⟨ht, by have := hv j; omega⟩ hc
        · exact h3 j (by omega)
theorem sC_one {tk : Nat → Bool} {val : Nat → Nat} {b b2 : Int32} {j n : Nat} (hv : ∀ i, val i ≤ 16) (hj : j < n) (ht : tk j = true) : (sC tk val b n).1 = (sC tk val b2 n).1 := by
  rcases (sC_eq (tk := tk) (b := b) (b2 := b2) hv n).2 with h | ⟨-, h⟩
  · exact h
  · rw [h j hj] at ht; cases ht
def mI (m : Nat) : Int32 := if m = 0 then -1 else nI (m - 1)
theorem mI_le {v m : Nat} (hv : v < 2 ^ 30) (hm : m < 2 ^ 30) : nI v ≤ mI m ↔ v + 1 ≤ m := by
  unfold mI
  split
  · rename_i h
    subst h
    rw [Int32.le_iff_toInt_le, nI_toInt (by omega)]
    constructor
    · intro q
      have : (-1 : Int32).toInt = -1 := by decide
      omega
    · intro q; omega
  · rw [nI_leI (by omega) (by omega)]
    omega
theorem mI_m1 {m : Nat} (hm : m < 2 ^ 30) : (-1 : Int32) ≤ mI m := by
  unfold mI
  split
  · exact Int32.le_refl _
  · rw [Int32.le_iff_toInt_le, nI_toInt (by omega)]
    have : (-1 : Int32).toInt = -1 := by decide
    omega
theorem mI_s (m : Nat) : nI m = mI (m + 1) := by
  unfold mI
  rw [if_neg (by omega), Nat.add_sub_cancel]
/-- the class's round: word z, letters guessed gd -/
def cR (V : gV) (nw z gd : Nat) : Prop := V 24 0 = 1 ∧ z < nw ∧ gd < 2 ^ 26 ∧ V 24 1 = nI z ∧ V 24 6 = nI gd
section BE
variable {V : gV} {nw : Nat} {ln wt : Nat → Nat} {lt : Nat → Nat → Nat}
theorem cr_takes {z gd c : Nat} (hr : cR V nw z gd) (hc : c < 26) : MX3_takes (nI c) V = if gd.testBit c = true then 0 else 1 := by
  obtain ⟨h0, hz, hg, h1, h6⟩ := hr
  have e1 : ¬ (1 : Int32) = 0 := by decide
  unfold MX3_takes
  rw [h0, h6, if_neg e1, pu_hold (show gd < 2 ^ 31 by omega) (show c < 31 by omega)]
  cases gd.testBit c <;> simp
theorem cr_fitting (h : cW V nw ln wt lt) {z gd : Nat} (hr : cR V nw z gd) : PX5_fitting V ∧ MX5_fitting V = nI (sFitting nw ln lt z gd) := by
  obtain ⟨h0, hz, hg, h1, h6⟩ := hr
  unfold PX5_fitting MX5_fitting
  rw [h1, h6]
  exact cw_fitting h hz hg
theorem sWhv_le (hn : nw ≤ 16) (hw : ∀ w, w < nw → wt w ≤ 99) {set c : Nat} : sWhv nw ln wt lt set c ≤ 1584 := by
  have h1 := sSum_le (f := fun w => if set.testBit w = true ∧ sPl ln lt w c ≠ 0 then wt w else 0) (b := 99) (n := nw) (fun w hx => by
    have := hw w hx
    show (if _ then wt w else 0) ≤ 99
    split <;> omega)
  unfold sWhv
  omega
theorem sB_le {tk : Nat → Bool} {val : Nat → Nat} {b : Int32} {c : Nat} (hv : ∀ i, val i ≤ c) : ∀ n, (sB tk val b n).2 ≤ c + 1
  | 0 => Nat.zero_le _
  | n + 1 => by
    rw [sB]
    split
    · have := hv n
      show val n + 1 ≤ c + 1
      omega
    · exact sB_le hv n
theorem cr_likeliest (h : cW V nw ln wt lt) {z gd set : Nat} (hr : cR V nw z gd) (hs : set < 2 ^ 31) : PX5_likeliestLetter (nI set) V ∧ MX5_likeliestLetter (nI set) V = (sB (fun c => !gd.testBit c) (sWhv nw ln wt lt set) 0 26).1 := by
  have hn := h.1
  have hv : ∀ c, sWhv nw ln wt lt set c ≤ 1584 := fun c => sWhv_le hn (fun w hw => (h.2.2 w hw).2.2.2.1)
  unfold PX5_likeliestLetter MX5_likeliestLetter
  refine pu_loop (fun f i => PX5_likeliestLetter_7 f (nI set) (sB (fun c => !gd.testBit c) (sWhv nw ln wt lt set) 0 i).1 (mI (sB (fun c => !gd.testBit c) (sWhv nw ln wt lt set) 0 i).2) (nI i) V ∧ BX5_likeliestLetter_7 f (nI set) (sB (fun c => !gd.testBit c) (sWhv nw ln wt lt set) 0 i).1 (mI (sB (fun c => !gd.testBit c) (sWhv nw ln wt lt set) 0 i).2) (nI i) V = (sB (fun c => !gd.testBit c) (sWhv nw ln wt lt set) 0 26).1) 26 (fun f => ?_) (fun f i hi ih => ?_) 26 1000 0 (by omega) (by omega)
  · have e : (26 : Int32) ≤ nI 26 := nI_le (a := 26) (Nat.le_refl _) (by omega)
    exact ⟨fun q => absurd e q, if_pos e⟩
  · have e : ¬ (26 : Int32) ≤ nI i := nI_ge (b := 26) hi (by omega)
    obtain ⟨hP, hM⟩ := cw_having h hs (show i < 2 ^ 31 by omega)
    have b1 := hv i
    have b2 := sB_le (tk := fun c => !gd.testBit c) (b := 0) hv i
    have e1 : ¬ (1 : Int32) = 0 := by decide
    simp only [PX5_likeliestLetter_7, BX5_likeliestLetter_7, PX5_likeliestLetter_40, BX5_likeliestLetter_40, PX5_likeliestLetter_54, BX5_likeliestLetter_54, cr_takes hr hi, hM, nI_1, mI_le (show _ < 2 ^ 30 from Nat.lt_of_le_of_lt b1 (by omega)) (show _ < 2 ^ 30 from Nat.lt_of_le_of_lt b2 (by omega)), mI_m1 (show _ < 2 ^ 30 from Nat.lt_of_le_of_lt b2 (by omega))]
    rw [sB] at ih
    cases hx : gd.testBit i with
    | true =>
      rw [if_neg (by simp [hx])] at ih
      simp [e, ih]
    | false =>
      by_cases hy : (sB (fun c => !gd.testBit c) (sWhv nw ln wt lt set) 0 i).2 < sWhv nw ln wt lt set i + 1
      · have hy2 : ¬ sWhv nw ln wt lt set i + 1 ≤ (sB (fun c => !gd.testBit c) (sWhv nw ln wt lt set) 0 i).2 := by omega
        rw [if_pos ⟨by simp [hx], hy⟩] at ih
        simp only [← mI_s] at ih
        simp [e, e1, hP, hy2, ih]
      · have hy2 : sWhv nw ln wt lt set i + 1 ≤ (sB (fun c => !gd.testBit c) (sWhv nw ln wt lt set) 0 i).2 := by omega
        rw [if_neg (fun q => hy q.2)] at ih
        simp [e, e1, hP, hy2, ih]
theorem mw_best (h : mW V nw ln wt lt) {z gd set : Nat} (hr : mR V nw ln lt z gd) (hs : set < 2 ^ 31) : PX9_bestLetter (nI set) V ∧ MX9_bestLetter (nI set) V = (sB (fun c => !gd.testBit c) (sWhv nw ln wt lt set) (-4) 26).1 := by
  have hn := h.1
  obtain ⟨hz, hg, r13, r6, r7⟩ := hr
  have hv : ∀ c, sWhv nw ln wt lt set c ≤ 1584 := fun c => sWhv_le hn (fun w hw => (h.2.2 w hw).2.2.2.1)
  unfold PX9_bestLetter MX9_bestLetter
  refine pu_loop (fun f i => PX9_bestLetter_8 f (nI set) (sB (fun c => !gd.testBit c) (sWhv nw ln wt lt set) (-4) i).1 (mI (sB (fun c => !gd.testBit c) (sWhv nw ln wt lt set) (-4) i).2) (nI i) V ∧ BX9_bestLetter_8 f (nI set) (sB (fun c => !gd.testBit c) (sWhv nw ln wt lt set) (-4) i).1 (mI (sB (fun c => !gd.testBit c) (sWhv nw ln wt lt set) (-4) i).2) (nI i) V = (sB (fun c => !gd.testBit c) (sWhv nw ln wt lt set) (-4) 26).1) 26 (fun f => ?_) (fun f i hi ih => ?_) 26 1000 0 (by omega) (by omega)
  · have e : (26 : Int32) ≤ nI 26 := nI_le (a := 26) (Nat.le_refl _) (by omega)
    exact ⟨fun q => absurd e q, if_pos e⟩
  · have e : ¬ (26 : Int32) ≤ nI i := nI_ge (b := 26) hi (by omega)
    obtain ⟨hP, hM⟩ := mw_having h hs hi
    have b1 := hv i
    have b2 := sB_le (tk := fun c => !gd.testBit c) (b := -4) hv i
    simp only [PX9_bestLetter_8, BX9_bestLetter_8, PX9_bestLetter_42, BX9_bestLetter_42, PX9_bestLetter_56, BX9_bestLetter_56, PX9_bestLetter_69, BX9_bestLetter_69, pc6, r6, hM, pu_shr (show gd < 2 ^ 31 by omega) (show i < 31 by omega), nI_1, mI_le (show _ < 2 ^ 30 from Nat.lt_of_le_of_lt b1 (by omega)) (show _ < 2 ^ 30 from Nat.lt_of_le_of_lt b2 (by omega)), mI_m1 (show _ < 2 ^ 30 from Nat.lt_of_le_of_lt b2 (by omega))]
    rw [sB] at ih
    cases hx : gd.testBit i with
    | true =>
      rw [if_neg (by simp [hx])] at ih
      simp [e, ih]
    | false =>
      by_cases hy : (sB (fun c => !gd.testBit c) (sWhv nw ln wt lt set) (-4) i).2 < sWhv nw ln wt lt set i + 1
      · have hy2 : ¬ sWhv nw ln wt lt set i + 1 ≤ (sB (fun c => !gd.testBit c) (sWhv nw ln wt lt set) (-4) i).2 := by omega
        rw [if_pos ⟨by simp [hx], hy⟩] at ih
        simp only [← mI_s] at ih
        simp [e, hP, hy2, ih]
      · have hy2 : sWhv nw ln wt lt set i + 1 ≤ (sB (fun c => !gd.testBit c) (sWhv nw ln wt lt set) (-4) i).2 := by omega
        rw [if_neg (fun q => hy q.2)] at ih
        simp [e, hP, hy2, ih]
theorem sLrg_le (hn : nw ≤ 16) {set c : Nat} : sLrg nw ln lt set c ≤ 16 := Nat.le_trans sLrg_i hn
theorem cr_sharpest (h : cW V nw ln wt lt) {z gd set : Nat} (hr : cR V nw z gd) (hs : set < 2 ^ 31) : PX5_sharpestLetter (nI set) V ∧ MX5_sharpestLetter (nI set) V = (sC (fun c => !gd.testBit c) (sLrg nw ln lt set) 0 26).1 := by
  have hn := h.1
  have hv : ∀ c, sLrg nw ln lt set c ≤ 16 := fun c => sLrg_le hn
  unfold PX5_sharpestLetter MX5_sharpestLetter
  refine pu_loop (fun f i => PX5_sharpestLetter_8 f (nI set) (sC (fun c => !gd.testBit c) (sLrg nw ln lt set) 0 i).1 (nI (sC (fun c => !gd.testBit c) (sLrg nw ln lt set) 0 i).2) (nI i) V ∧ BX5_sharpestLetter_8 f (nI set) (sC (fun c => !gd.testBit c) (sLrg nw ln lt set) 0 i).1 (nI (sC (fun c => !gd.testBit c) (sLrg nw ln lt set) 0 i).2) (nI i) V = (sC (fun c => !gd.testBit c) (sLrg nw ln lt set) 0 26).1) 26 (fun f => ?_) (fun f i hi ih => ?_) 26 1000 0 (by omega) (by omega)
  · have e : (26 : Int32) ≤ nI 26 := nI_le (a := 26) (Nat.le_refl _) (by omega)
    exact ⟨fun q => absurd e q, if_pos e⟩
  · have e : ¬ (26 : Int32) ≤ nI i := nI_ge (b := 26) hi (by omega)
    obtain ⟨hP, hM⟩ := cw_largest h hs (show i < 2 ^ 31 by omega)
    have b1 := hv i
    have b2 := sC_le (tk := fun c => !gd.testBit c) (b := 0) hv i
    have e1 : ¬ (1 : Int32) = 0 := by decide
    simp only [PX5_sharpestLetter_8, BX5_sharpestLetter_8, PX5_sharpestLetter_41, BX5_sharpestLetter_41, PX5_sharpestLetter_55, BX5_sharpestLetter_55, cr_takes hr hi, hM, nI_1, Int32.le_refl, nI_leI (show (sC (fun c => !gd.testBit c) (sLrg nw ln lt set) 0 i).2 < 2 ^ 31 from Nat.lt_of_le_of_lt b2 (by omega)) (show sLrg nw ln lt set i < 2 ^ 31 from Nat.lt_of_le_of_lt b1 (by omega))]
    rw [sC] at ih
    cases hx : gd.testBit i with
    | true =>
      rw [if_neg (by simp [hx])] at ih
      simp [e, ih]
    | false =>
      by_cases hy : sLrg nw ln lt set i < (sC (fun c => !gd.testBit c) (sLrg nw ln lt set) 0 i).2
      · have hy2 : ¬ (sC (fun c => !gd.testBit c) (sLrg nw ln lt set) 0 i).2 ≤ sLrg nw ln lt set i := by omega
        rw [if_pos ⟨by simp [hx], hy⟩] at ih
        simp [e, e1, hP, hy2, ih]
      · have hy2 : (sC (fun c => !gd.testBit c) (sLrg nw ln lt set) 0 i).2 ≤ sLrg nw ln lt set i := by omega
        rw [if_neg (fun q => hy q.2)] at ih
        simp [e, e1, hP, hy2, ih]
end BE
