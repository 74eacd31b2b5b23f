section TX2
variable {A B : gV} {T : Nat → Nat} {tl p : Nat}
theorem c_fail {a r : Int32} {V : gV} : MX6_fail a r V = (0, gu (gu V 201 1 a) 201 2 r) := rfl
theorem m_fail {r : Int32} {V : gV} : MX9_fails r V = (0, gu V 213 8 r) := rfl
/-- both stop with this fault -/
def tE (A B : gV) : Prop := ∃ q r, r ≠ 0 ∧ r < 5 ∧ q ≤ 120 ∧ A 201 1 = nI q ∧ A 201 2 = nI r ∧ B 213 7 = nI q ∧ B 213 8 = nI r
theorem t_fail {r : Nat} (h : tS A B T tl p) (hr : r ≠ 0) (hr2 : r < 5) : tE (gu (gu A 201 1 (A 201 5)) 201 2 (nI r)) (gu B 213 8 (nI r)) ∧ tF A B (gu (gu A 201 1 (A 201 5)) 201 2 (nI r)) (gu B 213 8 (nI r)) ∧ gu (gu A 201 1 (A 201 5)) 201 2 (nI r) 201 0 = A 201 0 := by
  have e1 : A 201 5 = nI p := h.2.2.2.2.2.2.2.1
  have e2 : B 213 7 = nI p := h.2.2.2.2.2.2.2.2
  have h1 := h.1
  have h2 := h.2.1
  refine ⟨⟨p, r, hr, hr2, by omega, ?_, ?_, ?_, ?_⟩, ⟨fun x a _ _ _ _ => by rw [gu_row a, gu_row a], fun x a _ => by rw [gu_row a], fun j _ a _ => by rw [gu_col a]⟩, by rw [gu_col (by omega), gu_col (by omega)]⟩
  · rw [gu_col (by omega), gu_at, e1]
  · rw [gu_at]
  · rw [gu_col (by omega), e2]
  · rw [gu_at]
theorem c_sign {a : Nat} (h : tS A B T tl p) (ha : a < 2 ^ 31) : MX6_scanSign (nI a) A = (if T p = a then (1, gu A 201 5 (nI (p + 1))) else (0, gu (gu A 201 1 (A 201 5)) 201 2 (nI 1))) ∧ PX6_scanSign (nI a) A := by
  have e1 : A 201 5 = nI p := h.2.2.2.2.2.2.2.1
  have hle := h.le p
  have h2 := h.2.1
  have h1 := h.1
  unfold MX6_scanSign PX6_scanSign
  rw [c_char h, c_fail]
  by_cases e : T p = a
  · rw [if_pos e, if_pos (congrArg nI e), e1, nI_1]
    exact ⟨rfl, fun _ => gZ_0⟩
  · rw [if_neg e, if_neg (fun q => e ((nI_eq (by omega) ha).mp q))]
    exact ⟨rfl, fun _ => gZ_0⟩
theorem m_sign {a : Nat} (h : tS A B T tl p) (ha : 1 ≤ a) (ha2 : a < 2 ^ 31) : MX9_sign (nI a) B = (if T p = a then (1, gu B 213 7 (nI (p + 1))) else (0, B)) ∧ PX9_sign (nI a) B := by
  have e1 : B 213 7 = nI p := h.2.2.2.2.2.2.2.2
  obtain ⟨q1, q2⟩ := m_isAt h (a := a) (b := a) ha ha2 ha2
  unfold MX9_sign PX9_sign BX9_sign_21 PX9_sign_21
  rw [q2]
  by_cases e : T p = a
  · have e' : a ≤ T p ∧ T p ≤ a := by omega
    rw [if_pos e', if_pos e, if_neg one_ne, e1, show (1 : Int32) = nI 1 from rfl, nI_add]
    exact ⟨rfl, q1, fun _ => gZ_1, fun _ => gZ_1⟩
  · have e' : ¬ (a ≤ T p ∧ T p ≤ a) := by omega
    rw [if_neg e', if_neg e, if_pos rfl, e1, Int32.add_zero, ← e1]
    refine ⟨?_, q1, fun _ => gZ_0, fun _ => gZ_0⟩
    have : gu B 213 7 (B 213 7) = B := by
      have e := gu_self (V := B) (k := 213) (j := 7)
      rwa [Int32.add_zero] at e
    rw [this]
/-- a sign: both go on, or both stop -/
theorem t_sign {a k : Nat} {ll ww : Nat → Nat} {lw : Nat → Nat → Nat} (h : tS A B T tl p) (hw : tW A B k ll ww lw) (ha : 1 ≤ a) (ha2 : a < 2 ^ 31) : PX6_scanSign (nI a) A ∧ PX9_sign (nI a) B ∧ ((∃ A2 B2, MX6_scanSign (nI a) A = (1, A2) ∧ MX9_sign (nI a) B = (1, B2) ∧ tS A2 B2 T tl (p + 1) ∧ tW A2 B2 k ll ww lw ∧ tF A B A2 B2 ∧ (∀ x, x ≠ 201 → A2 x = A x) ∧ (∀ x, x ≠ 213 → B2 x = B x) ∧ A2 201 2 = A 201 2) ∨ (∃ A2, MX6_scanSign (nI a) A = (0, A2) ∧ MX9_sign (nI a) B = (0, B) ∧ tE A2 (gu B 213 8 (nI 1)) ∧ tF A B A2 (gu B 213 8 (nI 1)) ∧ A2 201 0 = A 201 0)) := by
  obtain ⟨c1, c2⟩ := c_sign h ha2
  obtain ⟨m1, m2⟩ := m_sign h ha ha2
  refine ⟨c2, m2, ?_⟩
  rw [c1, m1]
  by_cases e : T p = a
  · have hpt : p < tl := by
      refine Classical.byContradiction fun q => ?_
      have := h.2.2.2.1 p (by omega)
      omega
    have hF : tF A B (gu A 201 5 (nI (p + 1))) (gu B 213 7 (nI (p + 1))) := ⟨fun x a _ _ _ _ => gu_row a, fun x a _ => gu_row a, fun j a _ _ => gu_col a⟩
    rw [if_pos e, if_pos e]
    refine Or.inl ⟨_, _, rfl, rfl, h.congr hF (by omega) (gu_col (by omega)) gu_at gu_at, hw.congr (by rw [gu_row (by omega)]) (gu_col (by omega)) (fun w _ => ⟨by rw [gu_row (by omega)], by rw [gu_row (by omega)]⟩) (fun j _ => by rw [gu_row (by omega)]) (fun j _ => by rw [gu_row (by omega)]), hF, fun x a => gu_row a, fun x a => gu_row a, gu_col (by omega)⟩
  · rw [if_neg e, if_neg e]
    obtain ⟨a1, a2, a3⟩ := t_fail (r := 1) h (by omega) (by omega)
    exact Or.inr ⟨_, rfl, rfl, a1, a2, a3⟩
end TX2
