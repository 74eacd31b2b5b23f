section TX6
variable {A B : gV} {T : Nat → Nat} {tl p : Nat}
theorem tS.mix {A2 B2 : gV} (h : tS A B T tl p) (h2 : tS A2 B2 T tl p) : tS A B2 T tl p := ⟨h.1, h.2.1, h.2.2.1, h.2.2.2.1, ⟨h.2.2.2.2.1.1, h2.2.2.2.2.1.2⟩, h.2.2.2.2.2.1, h2.2.2.2.2.2.2.1, h.2.2.2.2.2.2.2.1, h2.2.2.2.2.2.2.2.2⟩
theorem tF.mix {A2 B2 : gV} (h2 : tF A B A2 B2) : tF A B A B2 := ⟨fun _ _ _ _ _ _ => Eq.refl _, h2.2.1, h2.2.2⟩
/-- what one word's scan does in both -/
def tR (A B : gV) (T : Nat → Nat) (tl k : Nat) (A2 : gV) (R : Int32 × gV) : Prop := (∃ B2 p2 ll2 ww2 lw2, R = (1, B2) ∧ tS A2 B2 T tl p2 ∧ tW A2 B2 (k + 1) ll2 ww2 lw2 ∧ tF A B A2 B2 ∧ A2 201 2 = 0) ∨ (∃ B2, R = (0, B2) ∧ tE A2 B2 ∧ tF A B A2 B2 ∧ A2 201 0 = A 201 0)
theorem tR.trans {A0 B0 A2 : gV} {k : Nat} {R : Int32 × gV} (hF : tF A0 B0 A B) (h0 : A 201 0 = A0 201 0) (h : tR A B T tl k A2 R) : tR A0 B0 T tl k A2 R := by
  rcases h with ⟨B2, p2, l2, w2, lw2, a, b, c, d, e⟩ | ⟨B2, a, b, c, d⟩
  · exact Or.inl ⟨B2, p2, l2, w2, lw2, a, b, c, hF.trans d, e⟩
  · exact Or.inr ⟨B2, a, b, hF.trans c, d.trans h0⟩
theorem t_last {k n x : Nat} {ll ww : Nat → Nat} {lw : Nat → Nat → Nat} {L : Nat → Nat} {v : Nat} (h : tS A B T tl p) (hw : tW A B k ll ww lw) (hk : k < 16) (hn : tN A B k n L) (h2 : A 201 2 = 0) (hx : x ≤ 120) (hv : 1 ≤ v ∧ v ≤ 99 ∧ A 206 k = nI v ∧ B 218 (10 * k + 1) = nI v) : (PX6_scanSign 59 A ∧ PX6_scanWord_77 (nI x) (MX6_scanSign 59 A).1 (MX6_scanSign 59 A).2) ∧ (PX9_sign 59 B ∧ PX9_readsWord_91 (nI x) (MX9_sign 59 B).1 (MX9_sign 59 B).2) ∧ tR A B T tl k (BX6_scanWord_77 (nI x) (MX6_scanSign 59 A).1 (MX6_scanSign 59 A).2) (BX9_readsWord_91 (nI x) (MX9_sign 59 B).1 (MX9_sign 59 B).2) := by
  obtain ⟨s1, s2, s3⟩ := t_sign (a := 59) h hw (by omega) (by omega)
  have s1 : PX6_scanSign 59 A := s1
  have s2 : PX9_sign 59 B := s2
  rcases s3 with ⟨A2, B2, e1, e2, e3, e4, e5, e6, e7, e8⟩ | ⟨A2, e1, e2, e3, e4, e5⟩
  · have e1 : MX6_scanSign 59 A = (1, A2) := e1
    have e2 : MX9_sign 59 B = (1, B2) := e2
    rw [e1, e2]
    have hn2 : tN A2 B2 k n L := by
      obtain ⟨n1, n2, n3, n4, n5⟩ := hn
      refine ⟨n1, n2, by rw [e6 204 (by omega)]; exact n3, by rw [e7 218 (by omega)]; exact n4, fun i hi => ?_⟩
      rw [e6 210 (by omega), e7 218 (by omega)]
      exact n5 i hi
    obtain ⟨c1, c2⟩ := c_add e4 hk hn2 (nI x)
    obtain ⟨d1, d2⟩ := m_double e4 hk hn2
    unfold PX6_scanWord_77 BX6_scanWord_77 PX9_readsWord_91 BX9_readsWord_91 BX9_readsWord_112 PX9_readsWord_112
    simp only [if_neg one_ne, c2, d2, m_fail]
    refine ⟨⟨s1, fun _ => c1⟩, ⟨s2, fun _ => gZ_0, fun _ => ⟨d1, fun _ => gZ_0⟩⟩, ?_⟩
    cases hd : sEx (tEq ll lw n L) k with
    | true =>
      simp only [if_true, if_neg one_ne]
      refine Or.inr ⟨_, rfl, ⟨x, 3, by omega, by omega, hx, ?_, ?_, ?_, ?_⟩, e5.trans ⟨fun y a _ _ _ _ => by rw [gu_row a, gu_row a], fun y a _ => by rw [gu_row a, gu_row a], fun j a b _ => by rw [gu_col b, gu_col a]⟩, ?_⟩
      · rw [gu_col (by omega), gu_at]
      · rw [gu_at]; rfl
      · rw [gu_col (by omega), gu_at]
      · rw [gu_at]; rfl
      · rw [gu_col (by omega), gu_col (by omega)]
        exact e3.2.2.2.2.1.1.trans h.2.2.2.2.1.1.symm
    | false =>
      rw [if_neg Bool.false_ne_true, if_neg Bool.false_ne_true, if_pos rfl]
      have b9 : B2 213 9 = nI k := e4.2.2.1
      rw [b9, nI_1]
      have hF : tF A2 B2 (gu A2 202 0 (nI (k + 1))) (gu B2 213 9 (nI (k + 1))) := ⟨fun y _ a _ _ _ => by rw [gu_row a], fun y a _ => by rw [gu_row a], fun j _ _ a => by rw [gu_col a]⟩
      refine Or.inl ⟨_, p + 1, fun w => if w = k then n else ll w, fun w => if w = k then v else ww w, fun w i => if w = k then L i else lw w i, rfl, e3.congr hF e3.2.1 (by rw [gu_row (by omega)]) (by rw [gu_row (by omega)]; exact e3.2.2.2.2.2.2.2.1) (by rw [gu_col (by omega)]; exact e3.2.2.2.2.2.2.2.2), ⟨by omega, gu_at, gu_at, fun w hw2 => ?_⟩, e5.trans hF, by rw [gu_row (by omega), e8, h2]⟩
      rw [gu_row (show 204 ≠ 202 by omega), gu_row (show 206 ≠ 202 by omega), gu_row (show 210 ≠ 202 by omega), gu_row (show 218 ≠ 213 by omega)]
      by_cases e : w = k
      · subst e
        simp only [if_true]
        obtain ⟨n1, n2, n3, n4, n5⟩ := hn2
        refine ⟨⟨n1, n2, hv.1, hv.2.1⟩, n3, n4, by rw [e6 206 (by omega)]; exact hv.2.2.1, by rw [e7 218 (by omega)]; exact hv.2.2.2, n5⟩
      · simp only [if_neg e]
        exact e4.2.2.2 w (by omega)
  · have e1 : MX6_scanSign 59 A = (0, A2) := e1
    have e2 : MX9_sign 59 B = (0, B) := e2
    rw [e1, e2]
    unfold PX6_scanWord_77 BX6_scanWord_77 PX9_readsWord_91 BX9_readsWord_91
    simp only [if_true, m_fail]
    exact ⟨⟨s1, fun q => absurd trivial q⟩, ⟨s2, fun _ => gZ_0, fun q => absurd trivial q⟩, Or.inr ⟨_, rfl, e3, e4, e5⟩⟩
end TX6
