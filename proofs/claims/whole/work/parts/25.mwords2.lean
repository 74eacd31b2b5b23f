theorem sAll_mono {f : Nat → Bool} {i n : Nat} (h : sAll f i = false) (hn : i ≤ n) : sAll f n = false := by
  induction n with
  | zero =>
    have : i = 0 := by omega
    subst this; exact h
  | succ n ih =>
    by_cases e : i = n + 1
    · subst e; exact h
    · rw [sAll, ih (by omega), Bool.false_and]
theorem gZ_0 : gZ 0 := Or.inl rfl
theorem gZ_1 : gZ 1 := Or.inr rfl
theorem gZ_i {c : Prop} [Decidable c] : gZ (if c then 1 else 0) := by
  split
  · exact gZ_1
  · exact gZ_0
section MW2
variable {V : gV} {nw : Nat} {ln wt : Nat → Nat} {lt : Nat → Nat → Nat}
/-- what the reference keeps of the word of the round: z, the letters guessed, the places open -/
def mR (V : gV) (nw : Nat) (ln : Nat → Nat) (lt : Nat → Nat → Nat) (z gd : Nat) : Prop := z < nw ∧ gd < 2 ^ 26 ∧ V 214 13 = nI z ∧ V 214 6 = nI gd ∧ V 214 7 = nI (sOr (fun k => gd.testBit (lt z k)) (ln z))
theorem mw_fits (h : mW V nw ln wt lt) {z gd w : Nat} (hr : mR V nw ln lt z gd) (hw : w < nw) : PX9_fitsOne (nI w) V ∧ MX9_fitsOne (nI w) V = if sFit ln lt z gd w = true then 1 else 0 := by
  obtain ⟨hz, hg, r13, r6, r7⟩ := hr
  have hL := (mw_ln h hz).2
  have hL2 := (mw_ln h hw).2
  have hg2 : gd < 2 ^ 31 := by omega
  obtain ⟨hP0, hM0⟩ := mw_len h hw
  obtain ⟨hP1, hM1⟩ := mw_len h hz
  have ho := sOr_31 (f := fun k => gd.testBit (lt z k)) (n := ln z) (by omega)
  have e1 : ¬ (1 : Int32) = 0 := by decide
  have e2 : ¬ (0 : Int32) = 1 := by decide
  unfold PX9_fitsOne MX9_fitsOne sFit
  rw [pc13, r13, hM0, hM1]
  by_cases hl : ln w = ln z
  · have e : nI (ln w) = nI (ln z) := by rw [hl]
    rw [if_pos e, decide_eq_true hl, Bool.true_and]
    have key := pu_loop (fun f i => PX9_fitsOne_29 f (nI w) (if sAll (fun k => if gd.testBit (lt z k) = true then decide (lt w k = lt z k) else !gd.testBit (lt w k)) i = true then 1 else 0) (nI i) V ∧ BX9_fitsOne_29 f (nI w) (if sAll (fun k => if gd.testBit (lt z k) = true then decide (lt w k = lt z k) else !gd.testBit (lt w k)) i = true then 1 else 0) (nI i) V = if sAll (fun k => if gd.testBit (lt z k) = true then decide (lt w k = lt z k) else !gd.testBit (lt w k)) (ln z) = true then 1 else 0) (ln z) (fun f => ?_) (fun f i hi ih => ?_) (ln z) 1000 0 (by omega) (by omega)
    · simp only [PX9_fitsOne_26, BX9_fitsOne_26, hP0, hP1]
      refine ⟨⟨trivial, trivial, fun _ => key.1, fun q => absurd e q⟩, key.2⟩
    · have e : nI (ln w) ≤ nI (ln z) := nI_le (by omega) (by omega)
      simp only [PX9_fitsOne_29, BX9_fitsOne_29, hM0]
      simp [e, hP0, gZ_i]
    · have e : ¬ nI (ln w) ≤ nI i := nI_ge (by omega) (by omega)
      have hi2 : i < ln w := by omega
      have b1 := mw_ltb h hz hi
      have b2 := mw_ltb h hw hi2
      obtain ⟨hPa, hMa⟩ := mw_lt h hw hi2
      obtain ⟨hPb, hMb⟩ := mw_lt h hz hi
      have hob := sOr_bit (fun k => gd.testBit (lt z k)) (ln z) i
      rw [decide_eq_true hi, Bool.true_and] at hob
      simp only [PX9_fitsOne_29, BX9_fitsOne_29, PX9_fitsOne_63, BX9_fitsOne_63, PX9_fitsOne_123, BX9_fitsOne_123, hM0, pc6, pc7, pc13, r6, r7, r13, hMa, hMb, pu_shr (show _ < 2 ^ 31 from Nat.lt_trans ho (by omega)) (show i < 31 by omega), hob, pu_shr0 hg2 (show lt w i < 31 by omega), nI_1, nI_eq (show lt w i < 2 ^ 31 by omega) (show lt z i < 2 ^ 31 by omega)]
      rw [sAll] at ih
      cases hq : sAll (fun k => if gd.testBit (lt z k) = true then decide (lt w k = lt z k) else !gd.testBit (lt w k)) i with
      | false =>
        have hb : sAll (fun k => if gd.testBit (lt z k) = true then decide (lt w k = lt z k) else !gd.testBit (lt w k)) (ln z) = false := by
          rcases Nat.eq_or_lt_of_le (show i ≤ ln z by omega) with q | q
          · rw [← q]; exact hq
          · exact sAll_mono hq (by omega)
        simp [e, hP0, hb, gZ_0]
      | true =>
        rw [hq, Bool.true_and] at ih
        cases hx : gd.testBit (lt z i) with
        | true =>
          by_cases hy : lt w i = lt z i
          · simp [hx, hy] at ih
            simp [e, e1, hP0, hPa, hPb, hy, ih]
          · simp [hx, hy] at ih
            simp [e, e1, hP0, hPa, hPb, hy, ih]
        | false =>
          cases hy : gd.testBit (lt w i) with
          | true =>
            simp [hx, hy] at ih
            simp [e, e1, hP0, hPa, ih]
          | false =>
            simp [hx, hy] at ih
            simp [e, e1, hP0, hPa, ih]
  · have e : ¬ nI (ln w) = nI (ln z) := fun q => hl ((nI_eq (by omega) (by omega)).mp q)
    rw [if_neg e, decide_eq_false hl, Bool.false_and]
    have e3 : ¬ nI (ln w) ≤ nI 0 := nI_ge (by have := (mw_ln h hw).1; omega) (by omega)
    have k : ∀ f, PX9_fitsOne_29 (f + 1) (nI w) 0 0 V ∧ BX9_fitsOne_29 (f + 1) (nI w) 0 0 V = 0 := by
      intro f
      simp only [PX9_fitsOne_29, BX9_fitsOne_29, hM0]
      simp [hP0, gZ_0]
    have k2 := k 999
    exact ⟨⟨hP0, hP1, fun q => absurd q e, fun _ => k2.1⟩, k2.2⟩
end MW2
