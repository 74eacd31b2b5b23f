/-! THE CLASS'S WORDS in plain numbers: nw words, ln letters, wt the weight, lt the letters -/
def sOr (f : Nat → Bool) : Nat → Nat
  | 0 => 0
  | n + 1 => sOr f n ||| (if f n = true then 2 ^ n else 0)
theorem sOr_lt (f : Nat → Bool) : ∀ n, sOr f n < 2 ^ n
  | 0 => by simp [sOr]
  | n + 1 => by
    have h := sOr_lt f n
    have h2 : 2 ^ n < 2 ^ (n + 1) := Nat.pow_lt_pow_right (by omega) (by omega)
    refine Nat.or_lt_two_pow (by omega) ?_
    split
    · exact h2
    · exact Nat.two_pow_pos _
theorem sOr_bit (f : Nat → Bool) : ∀ n k, (sOr f n).testBit k = (decide (k < n) && f k)
  | 0, k => by simp [sOr]
  | n + 1, k => by
    rw [sOr, Nat.testBit_or, sOr_bit f n k]
    by_cases hk : k = n
    · subst hk
      cases hf : f k <;> simp
    · by_cases hf : f n = true
      · rw [if_pos hf, Nat.testBit_two_pow_of_ne (fun q => hk q.symm)]
        have : decide (k < n) = decide (k < n + 1) := by
          by_cases h : k < n <;> simp [h] <;> omega
        rw [this, Bool.or_false]
      · rw [if_neg hf, Nat.zero_testBit]
        have : decide (k < n) = decide (k < n + 1) := by
          by_cases h : k < n <;> simp [h] <;> omega
        rw [this, Bool.or_false]
theorem sOr_31 {f : Nat → Bool} {n : Nat} (h : n ≤ 26) : sOr f n < 2 ^ 26 := Nat.lt_of_lt_of_le (sOr_lt f n) (Nat.pow_le_pow_right (by omega) h)
def sLS (g : Nat → Nat) : Nat → Nat
  | 0 => 0
  | n + 1 => sLS g n ||| 2 ^ g n
def sSum (f : Nat → Nat) : Nat → Nat
  | 0 => 0
  | n + 1 => sSum f n + f n
theorem sSum_le {f : Nat → Nat} {b : Nat} : ∀ {n}, (∀ i, i < n → f i ≤ b) → sSum f n ≤ n * b
  | 0, _ => by simp [sSum]
  | n + 1, h => by
    have h1 := sSum_le (n := n) (fun i hi => h i (by omega))
    have h2 := h n (by omega)
    rw [sSum, Nat.succ_mul]
    omega
theorem sSum_mono {f : Nat → Nat} {i n : Nat} (h : i ≤ n) : sSum f i ≤ sSum f n := by
  induction n with
  | zero => have : i = 0 := by omega
            subst this; exact Nat.le_refl _
  | succ n ih =>
    by_cases hi : i = n + 1
    · subst hi; exact Nat.le_refl _
    · exact Nat.le_trans (ih (by omega)) (by rw [sSum]; omega)
theorem sSum_cong {f g : Nat → Nat} : ∀ {n}, (∀ i, i < n → f i = g i) → sSum f n = sSum g n
  | 0, _ => rfl
  | n + 1, h => by rw [sSum, sSum, sSum_cong (fun i hi => h i (by omega)), h n (by omega)]
def sMax (f : Nat → Nat) : Nat → Nat
  | 0 => 0
  | n + 1 => if sMax f n < f n then f n else sMax f n
theorem sMax_le {f : Nat → Nat} {b : Nat} : ∀ {n}, (∀ i, i < n → f i ≤ b) → sMax f n ≤ b
  | 0, _ => Nat.zero_le _
  | n + 1, h => by
    rw [sMax]
    split
    · exact h n (by omega)
    · exact sMax_le (fun i hi => h i (by omega))
def sAll (f : Nat → Bool) : Nat → Bool
  | 0 => true
  | n + 1 => sAll f n && f n
theorem sAll_f {f : Nat → Bool} {i n : Nat} (hi : i < n) (h : f i = false) : sAll f n = false := by
  induction n with
  | zero => omega
  | succ n ih =>
    rw [sAll]
    by_cases e : i = n
    · subst e; rw [h, Bool.and_false]
    · rw [ih (by omega), Bool.false_and]
/-- the places of a letter in a word -/
def sPl (ln : Nat → Nat) (lt : Nat → Nat → Nat) (w c : Nat) : Nat := sOr (fun k => decide (lt w k = c)) (ln w)
def sFit (ln : Nat → Nat) (lt : Nat → Nat → Nat) (z gd w : Nat) : Bool := decide (ln w = ln z) && sAll (fun k => if gd.testBit (lt z k) = true then decide (lt w k = lt z k) else !gd.testBit (lt w k)) (ln z)
def sFitting (nw : Nat) (ln : Nat → Nat) (lt : Nat → Nat → Nat) (z gd : Nat) : Nat := sOr (sFit ln lt z gd) nw
def sWof (nw : Nat) (wt : Nat → Nat) (set : Nat) : Nat := sSum (fun w => if set.testBit w = true then wt w else 0) nw
def sWhv (nw : Nat) (ln wt : Nat → Nat) (lt : Nat → Nat → Nat) (set c : Nat) : Nat := sSum (fun w => if set.testBit w = true ∧ sPl ln lt w c ≠ 0 then wt w else 0) nw
def sGrp (nw : Nat) (ln : Nat → Nat) (lt : Nat → Nat → Nat) (set c w : Nat) : Nat := sSum (fun v => if set.testBit v = true ∧ sPl ln lt v c = sPl ln lt w c then 1 else 0) nw
def sLrg (nw : Nat) (ln : Nat → Nat) (lt : Nat → Nat → Nat) (set c : Nat) : Nat := sMax (fun w => if set.testBit w = true then sGrp nw ln lt set c w else 0) nw
theorem sPl_lt {ln : Nat → Nat} {lt : Nat → Nat → Nat} {w c : Nat} (h : ln w ≤ 8) : sPl ln lt w c < 2 ^ 26 := sOr_31 (by omega)
/-- the class's words are these -/
def cW (V : gV) (nw : Nat) (ln wt : Nat → Nat) (lt : Nat → Nat → Nat) : Prop := nw ≤ 16 ∧ V 2 0 = nI nw ∧ ∀ w, w < nw → 2 ≤ ln w ∧ ln w ≤ 8 ∧ 1 ≤ wt w ∧ wt w ≤ 99 ∧ V 4 w = nI (ln w) ∧ V 6 w = nI (wt w) ∧ ∀ k, k < ln w → lt w k < 26 ∧ V 10 (w * 8 + k) = nI (lt w k)
section CW
variable {V : gV} {nw : Nat} {ln wt : Nat → Nat} {lt : Nat → Nat → Nat}
theorem cw_len (h : cW V nw ln wt lt) {w : Nat} (hw : w < nw) : MX4_at 3 (nI w) V = nI (ln w) := by
  rw [pu_at (n := 16) kd4 (Nat.lt_of_lt_of_le hw h.1)]
  exact (h.2.2 w hw).2.2.2.2.1
theorem cw_wt (h : cW V nw ln wt lt) {w : Nat} (hw : w < nw) : MX4_at 5 (nI w) V = nI (wt w) := by
  rw [pu_at (n := 16) kd6 (Nat.lt_of_lt_of_le hw h.1)]
  exact (h.2.2 w hw).2.2.2.2.2.1
theorem cw_lt (h : cW V nw ln wt lt) {w k : Nat} (hw : w < nw) (hk : k < ln w) : MX7_letterAt 2 (nI w) (nI k) V = nI (lt w k) := by
  have h1 := h.1
  have h2 := (h.2.2 w hw).2.1
  unfold MX7_letterAt
  rw [show (8 : Int32) = nI 8 from rfl, pu_mul, nI_add, pu_at (k := 2 + 7) (n := 128) kd10 (by omega)]
  exact ((h.2.2 w hw).2.2.2.2.2.2 k hk).2
theorem cw_ltb (h : cW V nw ln wt lt) {w k : Nat} (hw : w < nw) (hk : k < ln w) : lt w k < 26 := ((h.2.2 w hw).2.2.2.2.2.2 k hk).1
theorem cw_ln (h : cW V nw ln wt lt) {w : Nat} (hw : w < nw) : 2 ≤ ln w ∧ ln w ≤ 8 := ⟨(h.2.2 w hw).1, (h.2.2 w hw).2.1⟩
theorem cw_places (h : cW V nw ln wt lt) {w c : Nat} (hw : w < nw) (hc : c < 2 ^ 31) : PX7_placesOf (nI w) (nI c) V ∧ MX7_placesOf (nI w) (nI c) V = nI (sPl ln lt w c) := by
  have hL := (cw_ln h hw).2
  unfold PX7_placesOf MX7_placesOf sPl
  rw [cw_len h hw]
  refine pu_loop (fun f i => PX7_placesOf_15 f (nI w) (nI c) (nI (sOr (fun k => decide (lt w k = c)) i)) (nI (ln w)) (nI i) V ∧ BX7_placesOf_15 f (nI w) (nI c) (nI (sOr (fun k => decide (lt w k = c)) i)) (nI (ln w)) (nI i) V = nI (sOr (fun k => decide (lt w k = c)) (ln w))) (ln w) (fun f => ?_) (fun f i hi ih => ?_) (ln w) 1000 0 (by omega) (by omega)
  · have e : nI (ln w) ≤ nI (ln w) := nI_le (Nat.le_refl _) (by omega)
    exact ⟨fun q => absurd e q, if_pos e⟩
  · have e := nI_ge hi (by omega)
    have hb := cw_ltb h hw hi
    simp only [PX7_placesOf_15, BX7_placesOf_15, PX7_placesOf_40, BX7_placesOf_40, cw_lt h hw hi, if_neg e, pu_sh1 i (by omega), pu_or, nI_1]
    by_cases hx : lt w i = c
    · have e2 : nI (lt w i) = nI c := by rw [hx]
      rw [sOr, if_pos (decide_eq_true hx)] at ih
      refine ⟨fun _ => ⟨fun _ => ih.1, fun q => absurd e2 q⟩, ?_⟩
      rw [if_pos e2]
      exact ih.2
    · have e2 : ¬ nI (lt w i) = nI c := fun q => hx ((nI_eq (by omega) hc).mp q)
      rw [sOr, if_neg (fun q => hx (of_decide_eq_true q)), Nat.or_zero] at ih
      refine ⟨fun _ => ⟨fun q => absurd q e2, fun _ => ih.1⟩, ?_⟩
      rw [if_neg e2]
      exact ih.2
end CW
