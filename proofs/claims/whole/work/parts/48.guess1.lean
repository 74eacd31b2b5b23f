/-! GUESS: counts and bits -/
theorem sOr_or {f g : Nat → Bool} (n : Nat) : sOr f n ||| sOr g n = sOr (fun k => f k || g k) n := by
  apply Nat.eq_of_testBit_eq
  intro i
  rw [Nat.testBit_or, sOr_bit, sOr_bit, sOr_bit]
  cases decide (i < n) <;> rfl
theorem sOr_congr {f g : Nat → Bool} {n : Nat} (h : ∀ k, k < n → f k = g k) : sOr f n = sOr g n := by
  apply Nat.eq_of_testBit_eq
  intro i
  rw [sOr_bit, sOr_bit]
  by_cases c : i < n
  · rw [h i c]
  · simp [c]
theorem sOr_full {f : Nat → Bool} {n : Nat} : sOr f n = 2 ^ n - 1 ↔ ∀ k, k < n → f k = true := by
  constructor
  · intro h k hk
    have a := congrArg (fun x => x.testBit k) h
    simp only [sOr_bit, Nat.testBit_two_pow_sub_one, hk, decide_true, Bool.true_and] at a
    exact a
  · intro h
    apply Nat.eq_of_testBit_eq
    intro i
    rw [sOr_bit, Nat.testBit_two_pow_sub_one]
    by_cases c : i < n
    · rw [h i c, Bool.and_true]
    · simp [c]
def sCt (f : Nat → Bool) (n : Nat) : Nat := sSum (fun k => if f k = true then 1 else 0) n
theorem sCt_le {f : Nat → Bool} : ∀ n, sCt f n ≤ n
  | 0 => Nat.le_refl _
  | n + 1 => by
    have := sCt_le (f := f) n
    show sCt f n + (if f n = true then 1 else 0) ≤ _
    split <;> omega
theorem sCt_full {f : Nat → Bool} : ∀ n, sCt f n = n ↔ ∀ k, k < n → f k = true
  | 0 => ⟨fun _ k h => absurd h (by omega), fun _ => rfl⟩
  | n + 1 => by
    have h1 := sCt_le (f := f) n
    have h2 := sCt_full (f := f) n
    have e : sCt f (n + 1) = sCt f n + (if f n = true then 1 else 0) := rfl
    constructor
    · intro h k hk
      rw [e] at h
      by_cases c : f n = true
      · rw [if_pos c] at h
        by_cases ck : k = n
        · rw [ck]; exact c
        · exact h2.mp (by omega) k (by omega)
      · rw [if_neg c] at h; omega
    · intro h
      rw [e, if_pos (h n (by omega)), h2.mpr (fun k hk => h k (by omega))]
/-- the class counts the open places -/
theorem cr_open {V : gV} {nw : Nat} {ln wt : Nat → Nat} {lt : Nat → Nat → Nat} (h : cW V nw ln wt lt) {z gd : Nat} (hr : cR V nw z gd) : PX5_openPlaces V ∧ MX5_openPlaces V = nI (sCt (fun k => gd.testBit (lt z k)) (ln z)) := by
  obtain ⟨h0, hz, hg, h1, h6⟩ := hr
  have hL := (cw_ln h hz).2
  unfold PX5_openPlaces MX5_openPlaces
  rw [h1, cw_len h hz]
  refine pu_loop (fun f i => PX5_openPlaces_22 f (nI (sCt (fun k => gd.testBit (lt z k)) i)) (nI (ln z)) (nI i) V ∧ BX5_openPlaces_22 f (nI (sCt (fun k => gd.testBit (lt z k)) i)) (nI (ln z)) (nI i) V = nI (sCt (fun k => gd.testBit (lt z k)) (ln z))) (ln z) (fun f => ?_) (fun f i hi ih => ?_) (ln z) 1000 0 (by omega) (by omega)
  · have e : nI (ln z) ≤ nI (ln z) := nI_le (Nat.le_refl _) (by omega)
    exact ⟨fun q => absurd e q, if_pos e⟩
  · have e := nI_ge hi (by omega)
    have hb := cw_ltb h hz hi
    simp only [PX5_openPlaces_22, BX5_openPlaces_22, PX5_openPlaces_58, BX5_openPlaces_58, h1, h6, cw_lt h hz hi, if_neg e, nI_1, pu_hold (V := V) (show gd < 2 ^ 31 by omega) (show lt z i < 31 by omega)]
    have es : sCt (fun k => gd.testBit (lt z k)) (i + 1) = sCt (fun k => gd.testBit (lt z k)) i + (if gd.testBit (lt z i) = true then 1 else 0) := rfl
    by_cases hx : gd.testBit (lt z i) = true
    · rw [es, if_pos hx] at ih
      rw [if_pos hx]
      refine ⟨fun _ => ⟨fun q => absurd q one_ne, fun _ => ih.1⟩, ?_⟩
      rw [if_neg one_ne]
      exact ih.2
    · rw [es, if_neg hx, Nat.add_zero] at ih
      rw [if_neg hx]
      refine ⟨fun _ => ⟨fun _ => ih.1, fun q => absurd rfl q⟩, ?_⟩
      rw [if_pos rfl]
      exact ih.2
