/-! COPIES: the block of 33 cells at o goes into that at k, as far as S says (c: the cell, j: the place) -/
def Cp (S : Nat → Nat → Prop) (k o : Nat) (V V1 : gV) : Prop := (∀ c j, S c j → c < 33 ∧ V1 (k + c) j = V (o + c) j) ∧ ∀ x j, (∀ c, x = k + c → ¬ S c j) → V1 x j = V x j
theorem Cp.comp {S1 S2 : Nat → Nat → Prop} {k o : Nat} {V V1 V2 : gV} (hd : o + 33 ≤ k ∨ k + 33 ≤ o) (h1 : Cp S1 k o V V1) (h2 : Cp S2 k o V1 V2) : Cp (fun c j => S1 c j ∨ S2 c j) k o V V2 := by
  refine ⟨fun c j hs => ?_, fun x j hx => ?_⟩
  · by_cases h : S2 c j
    · obtain ⟨q1, q2⟩ := h2.1 c j h
      refine ⟨q1, q2.trans (h1.2 (o + c) j fun c1 e s1 => ?_)⟩
      have := (h1.1 c1 j s1).1
      omega
    · have s1 : S1 c j := hs.resolve_right h
      obtain ⟨q1, q2⟩ := h1.1 c j s1
      refine ⟨q1, (h2.2 (k + c) j fun c1 e s2 => ?_).trans q2⟩
      have e2 : c1 = c := by omega
      subst e2
      exact h s2
  · rw [h2.2 x j fun c e s => hx c e (Or.inr s), h1.2 x j fun c e s => hx c e (Or.inl s)]
theorem Cp.shift {S : Nat → Nat → Prop} {k o : Nat} {V V1 : gV} (d : Nat) (hS : ∀ c j, S c j → d + c < 33) (h : Cp S (k + d) (o + d) V V1) : Cp (fun c j => d ≤ c ∧ S (c - d) j) k o V V1 := by
  refine ⟨fun c j ⟨hc, hs⟩ => ?_, fun x j hx => ?_⟩
  · have := hS _ _ hs
    have q := (h.1 _ j hs).2
    rw [show k + d + (c - d) = k + c by omega, show o + d + (c - d) = o + c by omega] at q
    exact ⟨by omega, q⟩
  · refine h.2 x j fun c e s => hx (d + c) (by omega) ⟨by omega, ?_⟩
    rw [Nat.add_sub_cancel_left]
    exact s
theorem Cp.row {k o r n : Nat} {V : gV} (hr : r + 1 < 33) (hk : gk (k + r + 1) = n + 11) (ho : gk (o + r + 1) = n + 11) : Cp (fun c j => c = r + 1 ∧ j < n) k o V (MX4_copyFrom (k + r) (o + r) V) := by
  have hn : n < 2 ^ 31 := by have := gh_len (k + r + 1); omega
  have e : MX4_copyFrom (k + r) (o + r) V = gs V (k + r + 1) (va_cpy (V (o + r + 1)) (V (k + r + 1)) 0 0 n) := by
    unfold MX4_copyFrom
    rw [hk, ho, Nat.add_sub_cancel, gh_mn hn hn, if_neg (Nat.lt_irrefl n), nI_clamp hn]
  rw [e]
  refine ⟨fun c j ⟨hc, hj⟩ => ?_, fun x j hx => ?_⟩
  · subst hc
    refine ⟨hr, ?_⟩
    rw [gs_eq, if_pos (Nat.add_assoc k r 1).symm]
    show va_cpy _ _ _ _ _ _ = _
    unfold va_cpy
    rw [if_pos ⟨Nat.zero_le _, by omega⟩]
    show V (o + r + 1) (0 + (j - 0)) = V (o + (r + 1)) j
    rw [Nat.zero_add, Nat.sub_zero, Nat.add_assoc]
  · rw [gs_eq]
    by_cases h : x = k + r + 1
    · rw [if_pos h]
      have : ¬ j < n := fun q => hx (r + 1) (by omega) ⟨rfl, q⟩
      unfold va_cpy
      rw [if_neg (by omega), h]
    · rw [if_neg h]
theorem Cp.fld {k o f : Nat} {V : gV} : Cp (fun c j => c = 0 ∧ j = f) k o V (gu V k f (V o f)) := by
  refine ⟨fun c j ⟨hc, hj⟩ => ?_, fun x j hx => ?_⟩
  · subst hc; subst hj
    refine ⟨by omega, ?_⟩
    rw [Nat.add_zero, Nat.add_zero, gu_at]
  · rw [gu_eq, if_neg]
    rintro ⟨rfl, rfl⟩
    exact hx 0 rfl ⟨rfl, rfl⟩
def S7 (c j : Nat) : Prop := ((((c = 0 ∧ j = 0) ∨ (c = 1 + 1 ∧ j < 16)) ∨ (c = 3 + 1 ∧ j < 16)) ∨ (c = 5 + 1 ∧ j < 16)) ∨ (c = 7 + 1 ∧ j < 128)
def S0 (c j : Nat) : Prop := ((((((c = 0 ∧ j = 0) ∨ (c = 1 + 1 ∧ j < 5)) ∨ (c = 3 + 1 ∧ j < 5)) ∨ (c = 5 + 1 ∧ j < 5)) ∨ (c = 7 + 1 ∧ j < 5)) ∨ (c = 9 + 1 ∧ j < 5)) ∨ (c = 11 + 1 ∧ j < 5)
def S2 (c j : Nat) : Prop := ((((c = 0 ∧ j = 0) ∨ (c = 1 + 1 ∧ j < 6)) ∨ (c = 3 + 1 ∧ j < 6)) ∨ (c = 5 + 1 ∧ j < 6)) ∨ (c = 7 + 1 ∧ j < 6)
def S3 (c j : Nat) : Prop := ((((((c = 0 ∧ j = 0) ∨ (c = 0 ∧ j = 1)) ∨ (c = 0 ∧ j = 2)) ∨ (c = 0 ∧ j = 3)) ∨ (c = 0 ∧ j = 4)) ∨ (c = 0 ∧ j = 5)) ∨ (c = 0 ∧ j = 6)
theorem Cp.words {k o : Nat} {V : gV} (hd : o + 33 ≤ k ∨ k + 33 ≤ o) (hk : ∀ r, r = 1 ∨ r = 3 ∨ r = 5 → gk (k + r + 1) = 16 + 11 ∧ gk (o + r + 1) = 16 + 11) (hk7 : gk (k + 7 + 1) = 128 + 11 ∧ gk (o + 7 + 1) = 128 + 11) : Cp S7 k o V (MX7_copyFrom k o V) :=
  ((((Cp.fld (k := k) (o := o) (f := 0) (V := V)).comp hd (Cp.row (r := 1) (by omega) (hk 1 (by omega)).1 (hk 1 (by omega)).2)).comp hd (Cp.row (r := 3) (by omega) (hk 3 (by omega)).1 (hk 3 (by omega)).2)).comp hd (Cp.row (r := 5) (by omega) (hk 5 (by omega)).1 (hk 5 (by omega)).2)).comp hd (Cp.row (r := 7) (by omega) hk7.1 hk7.2)
theorem Cp.bench {k o : Nat} {V : gV} (hd : o + 33 ≤ k ∨ k + 33 ≤ o) (hk : ∀ r, r = 1 ∨ r = 3 ∨ r = 5 ∨ r = 7 ∨ r = 9 ∨ r = 11 → gk (k + r + 1) = 5 + 11 ∧ gk (o + r + 1) = 5 + 11) : Cp S0 k o V (MX0_copyFrom k o V) :=
  ((((((Cp.fld (k := k) (o := o) (f := 0) (V := V)).comp hd (Cp.row (r := 1) (by omega) (hk 1 (by omega)).1 (hk 1 (by omega)).2)).comp hd (Cp.row (r := 3) (by omega) (hk 3 (by omega)).1 (hk 3 (by omega)).2)).comp hd (Cp.row (r := 5) (by omega) (hk 5 (by omega)).1 (hk 5 (by omega)).2)).comp hd (Cp.row (r := 7) (by omega) (hk 7 (by omega)).1 (hk 7 (by omega)).2)).comp hd (Cp.row (r := 9) (by omega) (hk 9 (by omega)).1 (hk 9 (by omega)).2)).comp hd (Cp.row (r := 11) (by omega) (hk 11 (by omega)).1 (hk 11 (by omega)).2)
theorem Cp.past {k o : Nat} {V : gV} (hd : o + 33 ≤ k ∨ k + 33 ≤ o) (hk : ∀ r, r = 1 ∨ r = 3 ∨ r = 5 ∨ r = 7 → gk (k + r + 1) = 6 + 11 ∧ gk (o + r + 1) = 6 + 11) : Cp S2 k o V (MX2_copyFrom k o V) :=
  ((((Cp.fld (k := k) (o := o) (f := 0) (V := V)).comp hd (Cp.row (r := 1) (by omega) (hk 1 (by omega)).1 (hk 1 (by omega)).2)).comp hd (Cp.row (r := 3) (by omega) (hk 3 (by omega)).1 (hk 3 (by omega)).2)).comp hd (Cp.row (r := 5) (by omega) (hk 5 (by omega)).1 (hk 5 (by omega)).2)).comp hd (Cp.row (r := 7) (by omega) (hk 7 (by omega)).1 (hk 7 (by omega)).2)
theorem Cp.round {k o : Nat} {V : gV} (hd : o + 33 ≤ k ∨ k + 33 ≤ o) : Cp S3 k o V (MX3_copyFrom k o V) :=
  ((((((Cp.fld (k := k) (o := o) (f := 0) (V := V)).comp hd (Cp.fld (f := 1))).comp hd (Cp.fld (f := 2))).comp hd (Cp.fld (f := 3))).comp hd (Cp.fld (f := 4))).comp hd (Cp.fld (f := 5))).comp hd (Cp.fld (f := 6))
/-- what a state's copy takes: its numbers (4 to 8), words, bench, round, past rounds -/
def S5 (c j : Nat) : Prop := ((((((((1 ≤ c ∧ S7 (c - 1) j) ∨ (10 ≤ c ∧ S0 (c - 10) j)) ∨ (23 ≤ c ∧ S3 (c - 23) j)) ∨ (24 ≤ c ∧ S2 (c - 24) j)) ∨ (c = 0 ∧ j = 4)) ∨ (c = 0 ∧ j = 5)) ∨ (c = 0 ∧ j = 6)) ∨ (c = 0 ∧ j = 7)) ∨ (c = 0 ∧ j = 8)
/-- the kinds of a state's cells -/
def gSt (k : Nat) : Prop := ∀ c, c < 33 → gk (k + c) = gh_st.getD c 0
theorem Cp.state {k o : Nat} {V : gV} (hd : o + 33 ≤ k ∨ k + 33 ≤ o) (hk : gSt k) (ho : gSt o) : Cp S5 k o V (MX5_copyFrom k o V) := by
  have w := fun (V : gV) => Cp.shift (k := k) (o := o) (V := V) 1 (fun c j h => by unfold S7 at h; omega) (Cp.words (k := k + 1) (o := o + 1) (V := V) (by omega) (fun r hr => by
    have a := hk (1 + r + 1) (by omega)
    have b := ho (1 + r + 1) (by omega)
    rw [show k + 1 + r + 1 = k + (1 + r + 1) by omega, show o + 1 + r + 1 = o + (1 + r + 1) by omega, a, b]
    rcases hr with rfl | rfl | rfl <;> exact ⟨rfl, rfl⟩) ⟨(hk 9 (by omega)), (ho 9 (by omega))⟩)
  have b := fun (V : gV) => Cp.shift (k := k) (o := o) (V := V) 10 (fun c j h => by unfold S0 at h; omega) (Cp.bench (k := k + 10) (o := o + 10) (V := V) (by omega) (fun r hr => by
    have a := hk (10 + r + 1) (by omega)
    have b := ho (10 + r + 1) (by omega)
    rw [show k + 10 + r + 1 = k + (10 + r + 1) by omega, show o + 10 + r + 1 = o + (10 + r + 1) by omega, a, b]
    rcases hr with rfl | rfl | rfl | rfl | rfl | rfl <;> exact ⟨rfl, rfl⟩))
  have r := fun (V : gV) => Cp.shift (k := k) (o := o) (V := V) 23 (fun c j h => by unfold S3 at h; omega) (Cp.round (k := k + 23) (o := o + 23) (V := V) (by omega))
  have p := fun (V : gV) => Cp.shift (k := k) (o := o) (V := V) 24 (fun c j h => by unfold S2 at h; omega) (Cp.past (k := k + 24) (o := o + 24) (V := V) (by omega) (fun r hr => by
    have a := hk (24 + r + 1) (by omega)
    have b := ho (24 + r + 1) (by omega)
    rw [show k + 24 + r + 1 = k + (24 + r + 1) by omega, show o + 24 + r + 1 = o + (24 + r + 1) by omega, a, b]
    rcases hr with rfl | rfl | rfl | rfl <;> exact ⟨rfl, rfl⟩))
  exact ((((((((w V).comp hd (b _)).comp hd (r _)).comp hd (p _)).comp hd (Cp.fld (f := 4))).comp hd (Cp.fld (f := 5))).comp hd (Cp.fld (f := 6))).comp hd (Cp.fld (f := 7))).comp hd (Cp.fld (f := 8))
