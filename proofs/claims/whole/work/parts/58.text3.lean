theorem gu_gu {V : gV} {k j : Nat} {x y : Int32} : gu (gu V k j x) k j y = gu V k j y := by
  funext a b
  rw [gu_eq, gu_eq, gu_eq]
  split <;> rfl
section TX3
variable {A B : gV} {T : Nat → Nat} {tl p : Nat}
theorem t_weight {k : Nat} {ll ww : Nat → Nat} {lw : Nat → Nat → Nat} (h : tS A B T tl p) (hw : tW A B k ll ww lw) (hk : k < 16) : PX6_scanWeight A ∧ PX9_readsWeight B ∧ ((∃ A2 B2 p2 v, MX6_scanWeight A = (1, A2) ∧ MX9_readsWeight B = (1, B2) ∧ tS A2 B2 T tl p2 ∧ tW A2 B2 k ll ww lw ∧ tF A B A2 B2 ∧ (∀ x, x ≠ 201 → x ≠ 206 → A2 x = A x) ∧ (∀ j, j ≠ 10 * k + 1 → B2 218 j = B 218 j) ∧ A2 201 2 = A 201 2 ∧ 1 ≤ v ∧ v ≤ 99 ∧ A2 206 k = nI v ∧ B2 218 (10 * k + 1) = nI v) ∨ (∃ A2 B2, MX6_scanWeight A = (0, A2) ∧ MX9_readsWeight B = (0, B2) ∧ tE A2 B2 ∧ tF A B A2 B2 ∧ A2 201 0 = A 201 0)) := by
  obtain ⟨q1, q2⟩ := m_isAt h (a := 49) (b := 57) (by omega) (by omega) (by omega)
  have q1 : PX9_isAt 49 57 B := q1
  have q2 : MX9_isAt 49 57 B = _ := q2
  have q3 : MX8_isBetween (MX6_characterAt (A 201 5) A) 49 57 A = if 49 ≤ T p ∧ T p ≤ 57 then 1 else 0 := by
    rw [c_char h]
    exact c_between (a := 49) (b := 57) (by have := h.le p; omega) (by omega) (by omega)
  unfold MX6_scanWeight PX6_scanWeight MX9_readsWeight PX9_readsWeight
  rw [q2, q3, c_fail, m_fail]
  have h1 := h.1
  by_cases e : 49 ≤ T p ∧ T p ≤ 57
  · rw [if_pos e, if_neg one_ne, if_neg one_ne]
    have hpt : p < tl := by
      refine Classical.byContradiction fun q => ?_
      have := h.2.2.2.1 p (by omega)
      omega
    have a1 : A 201 5 = nI p := h.2.2.2.2.2.2.2.1
    have b1 : B 213 7 = nI p := h.2.2.2.2.2.2.2.2
    have b2 : B 217 p = nI (T p) := h.2.2.2.2.2.2.1 p hpt
    have a6 : A 202 0 = nI k := hw.2.1
    have b6 : B 213 9 = nI k := hw.2.2.1
    obtain ⟨A1, eA1⟩ : ∃ v, v = gu A 201 5 (nI (p + 1)) := ⟨_, rfl⟩
    obtain ⟨B1, eB1⟩ : ∃ v, v = gu B 213 7 (nI (p + 1)) := ⟨_, rfl⟩
    have hF1 : tF A B A1 B1 := ⟨fun x a _ _ _ _ => by rw [eA1, gu_row a], fun x a _ => by rw [eB1, gu_row a], fun j a _ _ => by rw [eB1, gu_col a]⟩
    have h2 : tS A1 B1 T tl (p + 1) := h.congr hF1 (by omega) (by rw [eA1, gu_col (by omega)]) (by rw [eA1, gu_at]) (by rw [eB1, gu_at])
    have hs1 : nI (T p) - 48 = nI (T p - 48) := pu_sub (b := 48) (by omega)
    obtain ⟨r1, r2⟩ := m_isAt h2 (a := 48) (b := 57) (by omega) (by omega) (by omega)
    have r1 : PX9_isAt 48 57 B1 := r1
    have r2 : MX9_isAt 48 57 B1 = _ := r2
    have r3 : MX8_isBetween (MX6_characterAt (A1 201 5) A1) 48 57 A1 = if 48 ≤ T (p + 1) ∧ T (p + 1) ≤ 57 then 1 else 0 := by
      rw [c_char h2]
      exact c_between (a := 48) (b := 57) (by have := h2.le (p + 1); omega) (by omega) (by omega)
    have iB : ∀ V : gV, V 213 9 = nI k → (10 : Int32) * V 213 9 + 1 = nI (10 * k + 1) := fun V q => by
      rw [q, show (10 : Int32) = nI 10 from rfl, show (1 : Int32) = nI 1 from rfl, pu_mul, nI_add]
    -- the end of it
    have fin : ∀ (p2 v : Nat) (A3 B3 : gV), p2 ≤ tl → 1 ≤ v → v ≤ 99 → A3 = gu A 201 5 (nI p2) → B3 = gu B 213 7 (nI p2) → (PX9_readsWeight_79 (nI v) B3) ∧ ∃ A2 B2 p2 v', BX6_scanWeight_85 (nI v) A3 = (1, A2) ∧ BX9_readsWeight_79 (nI v) B3 = (1, B2) ∧ tS A2 B2 T tl p2 ∧ tW A2 B2 k ll ww lw ∧ tF A B A2 B2 ∧ (∀ x, x ≠ 201 → x ≠ 206 → A2 x = A x) ∧ (∀ j, j ≠ 10 * k + 1 → B2 218 j = B 218 j) ∧ A2 201 2 = A 201 2 ∧ 1 ≤ v' ∧ v' ≤ 99 ∧ A2 206 k = nI v' ∧ B2 218 (10 * k + 1) = nI v' := by
      intro p2 v A3 B3 hp2 hv1 hv2 eA3 eB3
      have u1 : A3 202 0 = nI k := by rw [eA3, gu_row (by omega), a6]
      have u2 : B3 213 9 = nI k := by rw [eB3, gu_col (by omega), b6]
      have fA : ∀ x, x ≠ 201 → x ≠ 206 → gu A3 206 k (nI v) x = A x := fun x a b => by rw [gu_row b, eA3, gu_row a]
      have fA1 : ∀ j, j ≠ 5 → gu A3 206 k (nI v) 201 j = A 201 j := fun j a => by rw [gu_row (by omega), eA3, gu_col a]
      have fA2 : ∀ j, j ≠ k → gu A3 206 k (nI v) 206 j = A 206 j := fun j a => by rw [gu_col a, eA3, gu_row (by omega)]
      have fB : ∀ x, x ≠ 213 → x ≠ 218 → gu B3 218 (10 * k + 1) (nI v) x = B x := fun x a b => by rw [gu_row b, eB3, gu_row a]
      have fB1 : ∀ j, j ≠ 7 → gu B3 218 (10 * k + 1) (nI v) 213 j = B 213 j := fun j a => by rw [gu_row (by omega), eB3, gu_col a]
      have fB2 : ∀ j, j ≠ 10 * k + 1 → gu B3 218 (10 * k + 1) (nI v) 218 j = B 218 j := fun j a => by rw [gu_col a, eB3, gu_row (by omega)]
      have hF : tF A B (gu A3 206 k (nI v)) (gu B3 218 (10 * k + 1) (nI v)) := ⟨fun x a _ _ b _ => fA x a b, fun x a b => fB x a b, fun j a _ _ => fB1 j a⟩
      refine ⟨?_, gu A3 206 k (nI v), gu B3 218 (10 * k + 1) (nI v), p2, v, ?_, ?_, h.congr hF hp2 (fA1 0 (by omega)) (by rw [gu_row (by omega), eA3, gu_at]) (by rw [gu_row (by omega), eB3, gu_at]), hw.congr (by rw [fA 202 (by omega) (by omega)]) (fB1 9 (by omega)) (fun w hw => ⟨by rw [fA 204 (by omega) (by omega)], fA2 w (by omega)⟩) (fun j _ => by rw [fA 210 (by omega) (by omega)]) (fun j hj => fB2 j (by omega)), hF, fA, fB2, fA1 2 (by omega), hv1, hv2, gu_at, gu_at⟩
      · unfold PX9_readsWeight_79
        rw [iB B3 u2]
        exact pu_in (by omega) (by omega)
      · unfold BX6_scanWeight_85
        rw [u1, pu_put (k := 205) (n := 16) kd206 hk]
      · unfold BX9_readsWeight_79
        rw [iB B3 u2, nI_clamp (by omega)]
    rw [c_char h, b1, nI_clamp (by omega), b2, hs1, nI_1, a1, nI_1, ← eA1, ← eB1]
    refine ⟨fun _ => gZ_0, ?_⟩
    unfold BX6_scanWeight_40 BX9_readsWeight_40 PX9_readsWeight_40
    rw [r2, r3, hs1]
    by_cases e2 : 48 ≤ T (p + 1) ∧ T (p + 1) ≤ 57
    · have hpt2 : p + 1 < tl := by
        refine Classical.byContradiction fun q => ?_
        have := h.2.2.2.1 (p + 1) (by omega)
        omega
      have b3 : B1 213 7 = nI (p + 1) := h2.2.2.2.2.2.2.2.2
      have a3 : A1 201 5 = nI (p + 1) := h2.2.2.2.2.2.2.2.1
      have b4 : B1 217 (p + 1) = nI (T (p + 1)) := h2.2.2.2.2.2.2.1 _ hpt2
      rw [if_pos e2, if_neg one_ne, if_neg one_ne, c_char h2, b3, nI_clamp (by omega), b4, a3, nI_1]
      unfold BX6_scanWeight_75
      have w1 : nI (T p - 48) * 10 + nI (T (p + 1)) - 48 = nI (10 * (T p - 48) + (T (p + 1) - 48)) := by
        rw [show (10 : Int32) = nI 10 from rfl, show (48 : Int32) = nI 48 from rfl, pu_mul, nI_add, pu_sub (by omega)]
        exact congrArg nI (by omega)
      have w2 : 10 * nI (T p - 48) + nI (T (p + 1)) - 48 = nI (10 * (T p - 48) + (T (p + 1) - 48)) := by
        rw [show (10 : Int32) = nI 10 from rfl, show (48 : Int32) = nI 48 from rfl, pu_mul, nI_add, pu_sub (by omega)]
        exact congrArg nI (by omega)
      rw [w1, w2]
      obtain ⟨f1, f2⟩ := fin (p + 2) (10 * (T p - 48) + (T (p + 1) - 48)) (gu A1 201 5 (nI (p + 1 + 1))) (gu B1 213 7 (nI (p + 1 + 1))) (by omega) (by omega) (by omega) (by rw [eA1, gu_gu]) (by rw [eB1, gu_gu])
      exact ⟨⟨q1, fun q => absurd q one_ne, fun _ => ⟨pu_in (by omega) (by omega), r1, fun q => absurd q one_ne, fun _ => ⟨pu_in (by omega) (by omega), f1⟩⟩⟩, Or.inl f2⟩
    · rw [if_neg e2, if_pos rfl, if_pos rfl]
      obtain ⟨f1, f2⟩ := fin (p + 1) (T p - 48) A1 B1 (by omega) (by omega) (by omega) eA1 eB1
      exact ⟨⟨q1, fun q => absurd q one_ne, fun _ => ⟨pu_in (by omega) (by omega), r1, fun _ => f1, fun q => absurd rfl q⟩⟩, Or.inl f2⟩
  · rw [if_neg e, if_pos rfl, if_pos rfl]
    obtain ⟨a1, a2, a3⟩ := t_fail (r := 1) h (by omega) (by omega)
    exact ⟨fun _ => gZ_0, ⟨q1, fun _ => gZ_0, fun q => absurd rfl q⟩, Or.inr ⟨_, _, rfl, rfl, a1, a2, a3⟩⟩
end TX3
