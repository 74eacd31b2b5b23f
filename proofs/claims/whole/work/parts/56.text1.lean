/-! THE TEXT: the class's scan and the reference's -/
/-- the text and the place -/
def tS (A B : gV) (T : Nat → Nat) (tl p : Nat) : Prop := tl ≤ 120 ∧ p ≤ tl ∧ (∀ i, i < tl → 32 ≤ T i ∧ T i ≤ 126) ∧ (∀ i, tl ≤ i → T i = 0) ∧ (A 201 0 = nI tl ∧ B 213 6 = nI tl) ∧ (∀ i, i < tl → A 212 i = nI (T i)) ∧ (∀ i, i < tl → B 217 i = nI (T i)) ∧ A 201 5 = nI p ∧ B 213 7 = nI p
/-- the words read so far -/
def tW (A B : gV) (k : Nat) (ll ww : Nat → Nat) (lw : Nat → Nat → Nat) : Prop := k ≤ 16 ∧ A 202 0 = nI k ∧ B 213 9 = nI k ∧ ∀ w, w < k → (2 ≤ ll w ∧ ll w ≤ 8 ∧ 1 ≤ ww w ∧ ww w ≤ 99) ∧ A 204 w = nI (ll w) ∧ B 218 (10 * w) = nI (ll w) ∧ A 206 w = nI (ww w) ∧ B 218 (10 * w + 1) = nI (ww w) ∧ ∀ i, i < ll w → lw w i < 26 ∧ A 210 (w * 8 + i) = nI (lw w i) ∧ B 218 (10 * w + 2 + i) = nI (lw w i)
/-- what neither changes -/
def tF (A0 B0 A B : gV) : Prop := (∀ x, x ≠ 201 → x ≠ 202 → x ≠ 204 → x ≠ 206 → x ≠ 210 → A x = A0 x) ∧ (∀ x, x ≠ 213 → x ≠ 218 → B x = B0 x) ∧ ∀ j, j ≠ 7 → j ≠ 8 → j ≠ 9 → B 213 j = B0 213 j
theorem tF.rfl {A B : gV} : tF A B A B := ⟨fun _ _ _ _ _ _ => Eq.refl _, fun _ _ _ => Eq.refl _, fun _ _ _ _ => Eq.refl _⟩
theorem tF.trans {A0 B0 A B A2 B2 : gV} (h : tF A0 B0 A B) (h2 : tF A B A2 B2) : tF A0 B0 A2 B2 := ⟨fun x a b c d e => (h2.1 x a b c d e).trans (h.1 x a b c d e), fun x a b => (h2.2.1 x a b).trans (h.2.1 x a b), fun j a b c => (h2.2.2 j a b c).trans (h.2.2 j a b c)⟩
theorem tS.congr {A B A2 B2 : gV} {T : Nat → Nat} {tl p p2 : Nat} (h : tS A B T tl p) (hf : tF A B A2 B2) (hp : p2 ≤ tl) (e0 : A2 201 0 = A 201 0) (e1 : A2 201 5 = nI p2) (e2 : B2 213 7 = nI p2) : tS A2 B2 T tl p2 := by
  obtain ⟨h1, h2, h3, h4, ⟨h5, h6⟩, h7, h8, h9, h10⟩ := h
  exact ⟨h1, hp, h3, h4, ⟨e0.trans h5, (hf.2.2 6 (by omega) (by omega) (by omega)).trans h6⟩, fun i hi => by rw [hf.1 212 (by omega) (by omega) (by omega) (by omega) (by omega)]; exact h7 i hi, fun i hi => by rw [hf.2.1 217 (by omega) (by omega)]; exact h8 i hi, e1, e2⟩
theorem tW.congr {A B A2 B2 : gV} {k : Nat} {ll ww : Nat → Nat} {lw : Nat → Nat → Nat} (h : tW A B k ll ww lw) (e0 : A2 202 0 = A 202 0) (e1 : B2 213 9 = B 213 9) (f1 : ∀ w, w < k → A2 204 w = A 204 w ∧ A2 206 w = A 206 w) (f2 : ∀ j, j < 8 * k → A2 210 j = A 210 j) (f3 : ∀ j, j < 10 * k → B2 218 j = B 218 j) : tW A2 B2 k ll ww lw := by
  obtain ⟨h1, h2, h3, h4⟩ := h
  refine ⟨h1, e0.trans h2, e1.trans h3, fun w hw => ?_⟩
  obtain ⟨a1, a2, a3, a4, a5, a6⟩ := h4 w hw
  refine ⟨a1, (f1 w hw).1.trans a2, (f3 _ (by omega)).trans a3, (f1 w hw).2.trans a4, (f3 _ (by omega)).trans a5, fun i hi => ?_⟩
  obtain ⟨b1, b2, b3⟩ := a6 i hi
  exact ⟨b1, (f2 _ (by omega)).trans b2, (f3 _ (by omega)).trans b3⟩
section TX
variable {A B : gV} {T : Nat → Nat} {tl p : Nat}
theorem tS.le (h : tS A B T tl p) (i : Nat) : T i ≤ 126 := by
  by_cases hi : i < tl
  · exact (h.2.2.1 i hi).2
  · rw [h.2.2.2.1 i (by omega)]; omega
theorem c_char (h : tS A B T tl p) : MX6_characterAt (A 201 5) A = nI (T p) := by
  obtain ⟨h1, h2, h3, h4, ⟨h5, h6⟩, h7, h8, h9, h10⟩ := h
  unfold MX6_characterAt
  rw [h5, h9]
  by_cases e : tl ≤ p
  · rw [if_pos (nI_le e (by omega)), h4 p e]; rfl
  · rw [if_neg (nI_ge (by omega) (by omega)), pu_at (k := 211) (n := 120) kd212 (by omega)]
    exact h7 p (by omega)
theorem c_between {x a b : Nat} {V : gV} (hx : x < 2 ^ 31) (ha : a < 2 ^ 31) (hb : b < 2 ^ 31) : MX8_isBetween (nI x) (nI a) (nI b) V = if a ≤ x ∧ x ≤ b then 1 else 0 := by
  unfold MX8_isBetween
  by_cases h1 : x < a
  · rw [if_pos (nI_lt h1 ha), if_neg (by omega)]
  · rw [if_neg (nI_nlt (by omega) hx)]
    by_cases h2 : b < x
    · rw [if_pos (nI_lt h2 hx), if_neg (by omega)]
    · rw [if_neg (nI_nlt (by omega) hb), if_pos (by omega)]
theorem m_isAt (h : tS A B T tl p) {a b : Nat} (ha : 1 ≤ a) (ha2 : a < 2 ^ 31) (hb : b < 2 ^ 31) : PX9_isAt (nI a) (nI b) B ∧ MX9_isAt (nI a) (nI b) B = if a ≤ T p ∧ T p ≤ b then 1 else 0 := by
  have hle := h.le p
  obtain ⟨h1, h2, h3, h4, ⟨h5, h6⟩, h7, h8, h9, h10⟩ := h
  unfold PX9_isAt MX9_isAt
  rw [h6, h10]
  by_cases e : tl ≤ p
  · rw [if_pos (nI_le e (by omega)), h4 p e, if_neg (by omega)]
    exact ⟨fun q => absurd (nI_le e (by omega)) q, rfl⟩
  · rw [if_neg (nI_ge (by omega) (by omega)), nI_clamp (by omega), h8 p (by omega)]
    refine ⟨fun _ => pu_in (by omega) (by omega), ?_⟩
    show (if MX8_isBetween (nI (T p)) (nI a) (nI b) B = 0 then 0 else 1) = _
    rw [c_between (by omega) ha2 hb]
    by_cases e2 : a ≤ T p ∧ T p ≤ b
    · rw [if_pos e2, if_neg one_ne]
    · rw [if_neg e2, if_pos rfl]
theorem c_small (h : tS A B T tl p) : MX6_isSmallLetter (MX6_characterAt (A 201 5) A) A = if 97 ≤ T p ∧ T p ≤ 122 then 1 else 0 := by
  rw [c_char h]
  exact c_between (a := 97) (b := 122) (by have := h.le p; omega) (by omega) (by omega)
/-- the letters of one word -/
theorem t_letters {k : Nat} {ll ww : Nat → Nat} {lw : Nat → Nat → Nat} (h : tS A B T tl p) (hw : tW A B k ll ww lw) (hk : k < 16) : ∃ n A2 B2, n ≤ 8 ∧ p + n ≤ tl ∧ (∀ i, i < n → 97 ≤ T (p + i) ∧ T (p + i) ≤ 122) ∧ (n = 8 ∨ ¬ (97 ≤ T (p + n) ∧ T (p + n) ≤ 122)) ∧ tS A2 B2 T tl (p + n) ∧ tW A2 B2 k ll ww lw ∧ tF A B A2 B2 ∧ A2 201 1 = A 201 1 ∧ A2 201 2 = A 201 2 ∧ (∀ i, i < n → A2 210 (8 * k + i) = nI (T (p + i) - 97) ∧ B2 218 (10 * k + 2 + i) = nI (T (p + i) - 97)) ∧
    MX6_scanLetters A = BX6_scanLetters_64 (nI n) A2 ∧ (PX6_scanLetters_64 (nI n) A2 → PX6_scanLetters A) ∧ MX9_readsLetters B = BX9_readsLetters_63 (nI n) B2 ∧ (PX9_readsLetters_63 (nI n) B2 → PX9_readsLetters B) := by
  have go : ∀ m i f g (A1 B1 : gV), i + m = 8 → m < f → m < g → p + i ≤ tl → (∀ i', i' < i → 97 ≤ T (p + i') ∧ T (p + i') ≤ 122) → tS A1 B1 T tl (p + i) → tW A1 B1 k ll ww lw → tF A B A1 B1 → A1 201 1 = A 201 1 → A1 201 2 = A 201 2 → (∀ i', i' < i → A1 210 (8 * k + i') = nI (T (p + i') - 97) ∧ B1 218 (10 * k + 2 + i') = nI (T (p + i') - 97)) →
      ∃ n A2 B2, n ≤ 8 ∧ p + n ≤ tl ∧ (∀ i, i < n → 97 ≤ T (p + i) ∧ T (p + i) ≤ 122) ∧ (n = 8 ∨ ¬ (97 ≤ T (p + n) ∧ T (p + n) ≤ 122)) ∧ tS A2 B2 T tl (p + n) ∧ tW A2 B2 k ll ww lw ∧ tF A B A2 B2 ∧ A2 201 1 = A 201 1 ∧ A2 201 2 = A 201 2 ∧ (∀ i, i < n → A2 210 (8 * k + i) = nI (T (p + i) - 97) ∧ B2 218 (10 * k + 2 + i) = nI (T (p + i) - 97)) ∧
      BX6_scanLetters_2 f (nI i) A1 = BX6_scanLetters_64 (nI n) A2 ∧ (PX6_scanLetters_64 (nI n) A2 → PX6_scanLetters_2 f (nI i) A1) ∧ BX9_readsLetters_2 g (nI i) B1 = BX9_readsLetters_63 (nI n) B2 ∧ (PX9_readsLetters_63 (nI n) B2 → PX9_readsLetters_2 g (nI i) B1) := by
    intro m
    induction m with
    | zero =>
      intro i f g A1 B1 hi hf hg hp h1 h2 h3 h4 h5 h6 h7
      obtain ⟨f, rfl⟩ : ∃ z, f = z + 1 := ⟨f - 1, by omega⟩
      obtain ⟨g, rfl⟩ : ∃ z, g = z + 1 := ⟨g - 1, by omega⟩
      have : i = 8 := by omega
      subst this
      have e8 : (8 : Int32) ≤ nI 8 := nI_le (a := 8) (b := 8) (Nat.le_refl _) (by omega)
      obtain ⟨q1, q2⟩ := m_isAt h2 (a := 97) (b := 122) (by omega) (by omega) (by omega)
      refine ⟨8, A1, B1, Nat.le_refl _, hp, h1, Or.inl rfl, h2, h3, h4, h5, h6, h7, ?_, ?_, ?_, ?_⟩
      · simp only [BX6_scanLetters_2, if_pos e8]
      · exact fun q => ⟨fun _ => q, fun q2 => absurd e8 q2⟩
      · simp only [BX9_readsLetters_2, if_pos e8]
        split <;> rfl
      · exact fun q => ⟨q1, fun _ => q, fun _ => ⟨fun _ => q, fun q2 => absurd e8 q2⟩⟩
    | succ m ih =>
      intro i f g A1 B1 hi hf hg hp h1 h2 h3 h4 h5 h6 h7
      obtain ⟨f, rfl⟩ : ∃ z, f = z + 1 := ⟨f - 1, by omega⟩
      obtain ⟨g, rfl⟩ : ∃ z, g = z + 1 := ⟨g - 1, by omega⟩
      have e8 : ¬ (8 : Int32) ≤ nI i := nI_ge (a := i) (b := 8) (by omega) (by omega)
      obtain ⟨q1, q2⟩ := m_isAt h2 (a := 97) (b := 122) (by omega) (by omega) (by omega)
      have q2 : MX9_isAt 97 122 B1 = _ := q2
      have q3 := c_small h2
      by_cases hs : 97 ≤ T (p + i) ∧ T (p + i) ≤ 122
      · rw [if_pos hs] at q2 q3
        have n2 : ¬ MX9_isAt 97 122 B1 = 0 := by rw [q2]; exact one_ne
        have n3 : ¬ MX6_isSmallLetter (MX6_characterAt (A1 201 5) A1) A1 = 0 := by rw [q3]; exact one_ne
        have hpt : p + i < tl := by
          refine Classical.byContradiction fun q => ?_
          have := h2.2.2.2.1 (p + i) (by omega)
          omega
        have b6 : A1 202 0 = nI k := h3.2.1
        have b7 : B1 213 9 = nI k := h3.2.2.1
        have b8 : A1 201 5 = nI (p + i) := h2.2.2.2.2.2.2.2.1
        have b9 : B1 213 7 = nI (p + i) := h2.2.2.2.2.2.2.2.2
        have b10 : B1 217 (p + i) = nI (T (p + i)) := h2.2.2.2.2.2.2.1 _ hpt
        have h120 := h2.1
        have hsub : nI (T (p + i)) - 97 = nI (T (p + i) - 97) := pu_sub (b := 97) hs.1
        obtain ⟨A2, eA⟩ : ∃ v, v = gu (gu A1 210 (8 * k + i) (nI (T (p + i) - 97))) 201 5 (nI (p + (i + 1))) := ⟨_, rfl⟩
        obtain ⟨B2, eB⟩ : ∃ v, v = gu (gu B1 218 (10 * k + 2 + i) (nI (T (p + i) - 97))) 213 7 (nI (p + (i + 1))) := ⟨_, rfl⟩
        have sA : BX6_scanLetters_2 (f + 1) (nI i) A1 = BX6_scanLetters_2 f (nI (i + 1)) A2 ∧ (PX6_scanLetters_2 f (nI (i + 1)) A2 → PX6_scanLetters_2 (f + 1) (nI i) A1) := by
          have ep : BX6_scanLetters_48 (BX6_scanLetters_2 f) (nI i) (MX7_putLetter (A1 202 0) (nI i) ((MX6_characterAt (A1 201 5) A1) - 97) A1) = BX6_scanLetters_2 f (nI (i + 1)) A2 ∧ (PX6_scanLetters_48 (PX6_scanLetters_2 f) (nI i) (MX7_putLetter (A1 202 0) (nI i) ((MX6_characterAt (A1 201 5) A1) - 97) A1) = PX6_scanLetters_2 f (nI (i + 1)) A2) := by
            unfold BX6_scanLetters_48 PX6_scanLetters_48 MX7_putLetter
            rw [c_char h2, hsub, b6, show (8 : Int32) = nI 8 from rfl, pu_mul, nI_add, Nat.mul_comm k 8, pu_put (k := 209) (n := 128) kd210 (by omega), nI_1]
            show BX6_scanLetters_2 f _ (gu (gu A1 210 (8 * k + i) _) 201 5 (gu A1 210 (8 * k + i) _ 201 5 + 1)) = _ ∧ (PX6_scanLetters_2 f _ (gu (gu A1 210 (8 * k + i) _) 201 5 (gu A1 210 (8 * k + i) _ 201 5 + 1)) = _)
            rw [gu_row (show 201 ≠ 210 by omega), b8, nI_1, show p + i + 1 = p + (i + 1) by omega, ← eA]
            exact ⟨rfl, rfl⟩
          refine ⟨?_, fun q => ⟨fun q2 => absurd q2 e8, fun _ => ⟨fun q2 => absurd q2 n3, fun _ => by rw [ep.2]; exact q⟩⟩⟩
          simp only [BX6_scanLetters_2, if_neg e8, if_neg n3]
          exact ep.1
        have sB : BX9_readsLetters_2 (g + 1) (nI i) B1 = BX9_readsLetters_2 g (nI (i + 1)) B2 ∧ (PX9_readsLetters_2 g (nI (i + 1)) B2 → PX9_readsLetters_2 (g + 1) (nI i) B1) := by
          have ei : (10 : Int32) * B1 213 9 + 2 + nI i = nI (10 * k + 2 + i) := by
            rw [b7, show (10 : Int32) = nI 10 from rfl, show (2 : Int32) = nI 2 from rfl, pu_mul, nI_add, nI_add]
          have ep : BX9_readsLetters_47 (BX9_readsLetters_2 g) (nI i) (gu B1 218 ((10 : Int32) * B1 213 9 + 2 + nI i).toNatClampNeg (B1 217 (B1 213 7).toNatClampNeg - 97)) = BX9_readsLetters_2 g (nI (i + 1)) B2 ∧ (PX9_readsLetters_47 (PX9_readsLetters_2 g) (nI i) (gu B1 218 ((10 : Int32) * B1 213 9 + 2 + nI i).toNatClampNeg (B1 217 (B1 213 7).toNatClampNeg - 97)) = PX9_readsLetters_2 g (nI (i + 1)) B2) := by
            unfold BX9_readsLetters_47 PX9_readsLetters_47
            rw [ei, nI_clamp (by omega), b9, nI_clamp (by omega), b10, hsub, nI_1, gu_row (show 213 ≠ 218 by omega), b9, nI_1, show p + i + 1 = p + (i + 1) by omega, ← eB]
            exact ⟨rfl, rfl⟩
          refine ⟨?_, fun q => ⟨q1, fun q2 => absurd q2 n2, fun _ => ⟨fun q2 => absurd q2 e8, fun _ => ⟨by rw [b9]; exact pu_in (by omega) (by omega), by rw [ei]; exact pu_in (by omega) (by omega), by rw [ep.2]; exact q⟩⟩⟩⟩
          simp only [BX9_readsLetters_2, if_neg e8, if_neg n2]
          exact ep.1
        rw [sA.1, sB.1]
        have fA : ∀ x, x ≠ 201 → x ≠ 210 → A2 x = A1 x := fun x a b => by rw [eA, gu_row a, gu_row b]
        have fA1 : ∀ j, j ≠ 5 → A2 201 j = A1 201 j := fun j a => by rw [eA, gu_col a, gu_row (by omega)]
        have fA2 : ∀ j, j ≠ 8 * k + i → A2 210 j = A1 210 j := fun j a => by rw [eA, gu_row (by omega), gu_col a]
        have fB : ∀ x, x ≠ 213 → x ≠ 218 → B2 x = B1 x := fun x a b => by rw [eB, gu_row a, gu_row b]
        have fB1 : ∀ j, j ≠ 7 → B2 213 j = B1 213 j := fun j a => by rw [eB, gu_col a, gu_row (by omega)]
        have fB2 : ∀ j, j ≠ 10 * k + 2 + i → B2 218 j = B1 218 j := fun j a => by rw [eB, gu_row (by omega), gu_col a]
        have hF : tF A1 B1 A2 B2 := ⟨fun x a _ _ _ b => fA x a b, fun x a b => fB x a b, fun j a _ _ => fB1 j a⟩
        obtain ⟨n, A3, B3, w1, w2, w3, w4, w5, w6, w7, w8, w9, w10, w11, w12, w13, w14⟩ := ih (i + 1) f g A2 B2 (by omega) (by omega) (by omega) (by omega) (fun i' hi' => by
            by_cases e : i' = i
            · subst e; exact hs
            · exact h1 i' (by omega)) (h2.congr hF (by omega) (fA1 0 (by omega)) (by rw [eA, gu_at]) (by rw [eB, gu_at])) (h3.congr (by rw [fA 202 (by omega) (by omega)]) (fB1 9 (by omega)) (fun w _ => ⟨by rw [fA 204 (by omega) (by omega)], by rw [fA 206 (by omega) (by omega)]⟩) (fun j hj => fA2 j (by omega)) (fun j hj => fB2 j (by omega))) (h4.trans hF) ((fA1 1 (by omega)).trans h5) ((fA1 2 (by omega)).trans h6) (fun i' hi' => by
            by_cases e : i' = i
            · subst e
              exact ⟨by rw [eA, gu_row (by omega), gu_at], by rw [eB, gu_row (by omega), gu_at]⟩
            · rw [fA2 _ (by omega), fB2 _ (by omega)]
              exact h7 i' (by omega))
        exact ⟨n, A3, B3, w1, w2, w3, w4, w5, w6, w7, w8, w9, w10, w11, fun q => sA.2 (w12 q), w13, fun q => sB.2 (w14 q)⟩
      · rw [if_neg hs] at q2 q3
        refine ⟨i, A1, B1, by omega, hp, h1, Or.inr hs, h2, h3, h4, h5, h6, h7, ?_, ?_, ?_, ?_⟩
        · simp only [BX6_scanLetters_2, if_neg e8, if_pos q3]
        · exact fun q => ⟨fun q2 => absurd q2 e8, fun _ => ⟨fun _ => q, fun q2 => absurd q3 q2⟩⟩
        · simp only [BX9_readsLetters_2, if_pos q2]
        · exact fun q => ⟨q1, fun _ => q, fun q3 => absurd q2 q3⟩
  exact go 8 0 1000 1000 A B (by omega) (by omega) (by omega) h.2.1 (fun i hi => absurd hi (by omega)) h hw tF.rfl rfl rfl (fun i hi => absurd hi (by omega))
end TX
