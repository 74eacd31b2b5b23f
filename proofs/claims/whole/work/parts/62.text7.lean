section TX7
variable {A B : gV} {T : Nat → Nat} {tl p : Nat}
theorem t_star {k n x : Nat} {ll ww : Nat → Nat} {lw : Nat → Nat → Nat} {L : Nat → Nat} (h : tS A B T tl p) (hw : tW A B k ll ww lw) (hk : k < 16) (hn : tN A B k n L) (h2 : A 201 2 = 0) (hx : x ≤ 120) : (PX6_scanSign 42 A ∧ PX6_scanWord_61 (nI x) (MX6_scanSign 42 A).1 (MX6_scanSign 42 A).2) ∧ (PX9_sign 42 B ∧ PX9_readsWord_67 (nI x) (MX9_sign 42 B).1 (MX9_sign 42 B).2) ∧ tR A B T tl k (BX6_scanWord_61 (nI x) (MX6_scanSign 42 A).1 (MX6_scanSign 42 A).2) (BX9_readsWord_67 (nI x) (MX9_sign 42 B).1 (MX9_sign 42 B).2) := by
  obtain ⟨s1, s2, s3⟩ := t_sign (a := 42) h hw (by omega) (by omega)
  have s1 : PX6_scanSign 42 A := s1
  have s2 : PX9_sign 42 B := s2
  rcases s3 with ⟨A2, B2, e1, e2, e3, e4, e5, e6, e7, e8⟩ | ⟨A2, e1, e2, e3, e4, e5⟩
  · have e1 : MX6_scanSign 42 A = (1, A2) := e1
    have e2 : MX9_sign 42 B = (1, B2) := e2
    rw [e1, e2]
    have h0 : A2 201 0 = A 201 0 := e3.2.2.2.2.1.1.trans h.2.2.2.2.1.1.symm
    obtain ⟨w1, w2, w3⟩ := t_weight e3 e4 hk
    unfold PX6_scanWord_61 BX6_scanWord_61 PX9_readsWord_67 BX9_readsWord_67 PX6_scanWord_68 BX6_scanWord_68 PX9_readsWord_80 BX9_readsWord_80
    simp only [if_neg one_ne, m_fail]
    rcases w3 with ⟨A3, B3, p3, v, f1, f2, f3, f4, f5, f6, f7, f8, f9, f10, f11, f12⟩ | ⟨A3, B3, f1, f2, f3, f4, f5⟩
    · rw [f1, f2]
      simp only [if_neg one_ne]
      have hn3 : tN A3 B3 k n L := by
        obtain ⟨n1, n2, n3, n4, n5⟩ := hn
        refine ⟨n1, n2, by rw [f6 204 (by omega) (by omega), e6 204 (by omega)]; exact n3, by rw [f7 _ (by omega), e7 218 (by omega)]; exact n4, fun i hi => ?_⟩
        rw [f6 210 (by omega) (by omega), f7 _ (by omega), e6 210 (by omega), e7 218 (by omega)]
        exact n5 i hi
      obtain ⟨l1, l2, l3⟩ := t_last (v := v) f3 f4 hk hn3 (by rw [f8, e8, h2]) hx ⟨f9, f10, f11, f12⟩
      have h3 : A3 201 0 = A2 201 0 := f3.2.2.2.2.1.1.trans e3.2.2.2.2.1.1.symm
      exact ⟨⟨s1, fun _ => ⟨w1, fun _ => l1⟩⟩, ⟨s2, fun _ => gZ_0, fun _ => ⟨w2, fun _ => l2⟩⟩, l3.trans (e5.trans f5) (h3.trans h0)⟩
    · rw [f1, f2]
      exact ⟨⟨s1, fun _ => ⟨w1, fun q => absurd rfl q⟩⟩, ⟨s2, fun _ => gZ_0, fun _ => ⟨w2, fun q => absurd rfl q⟩⟩, Or.inr ⟨_, rfl, f3, e5.trans f4, f5.trans h0⟩⟩
  · have e1 : MX6_scanSign 42 A = (0, A2) := e1
    have e2 : MX9_sign 42 B = (0, B) := e2
    rw [e1, e2]
    unfold PX6_scanWord_61 BX6_scanWord_61 PX9_readsWord_67 BX9_readsWord_67
    simp only [if_true, m_fail]
    exact ⟨⟨s1, fun q => absurd trivial q⟩, ⟨s2, fun _ => gZ_0, fun q => absurd trivial q⟩, Or.inr ⟨_, rfl, e3, e4, e5⟩⟩
theorem t_word {k : Nat} {ll ww : Nat → Nat} {lw : Nat → Nat → Nat} (h : tS A B T tl p) (hw : tW A B k ll ww lw) (h2 : A 201 2 = 0) : PX6_scanWord A ∧ PX9_readsWord B ∧ tR A B T tl k (MX6_scanWord A) (MX9_readsWord B) := by
  have a6 : A 202 0 = nI k := hw.2.1
  have b6 : B 213 9 = nI k := hw.2.2.1
  have hk := hw.1
  have b1 : B 213 7 = nI p := h.2.2.2.2.2.2.2.2
  have a1 : A 201 5 = nI p := h.2.2.2.2.2.2.2.1
  have h1 := h.1
  have hp := h.2.1
  obtain ⟨q1, q2⟩ := m_isAt h (a := 97) (b := 122) (by omega) (by omega) (by omega)
  have q1 : PX9_isAt 97 122 B := q1
  have q2 : MX9_isAt 97 122 B = _ := q2
  have q3 := c_small h
  unfold PX6_scanWord MX6_scanWord PX9_readsWord MX9_readsWord PX9_readsWord_31 BX9_readsWord_31
  rw [q3, q2, a6, b6, c_fail, c_fail]
  simp only [m_fail]
  by_cases e16 : k = 16
  · have c1 : nI k = 16 := by rw [e16]; rfl
    have c2 : ¬ nI k < 16 := by rw [c1]; exact nI_nlt (b := 16) (a := 16) (Nat.le_refl _) (by omega)
    rw [if_pos c1]
    by_cases e : 97 ≤ T p ∧ T p ≤ 122
    · rw [if_pos e, if_neg one_ne, if_neg one_ne, if_neg c2]
      obtain ⟨a1, a2, a3⟩ := t_fail (r := 4) h (by omega) (by omega)
      exact ⟨fun _ q => absurd q c2, ⟨fun _ => ⟨q1, fun q => absurd q one_ne, fun _ => gZ_0⟩, fun q => absurd c1 q⟩, Or.inr ⟨_, rfl, a1, a2, a3⟩⟩
    · rw [if_neg e, if_pos rfl, if_pos rfl]
      obtain ⟨a1, a2, a3⟩ := t_fail (r := 1) h (by omega) (by omega)
      exact ⟨fun q => absurd rfl q, ⟨fun _ => ⟨q1, fun _ => gZ_0, fun q => absurd rfl q⟩, fun q => absurd c1 q⟩, Or.inr ⟨_, rfl, a1, a2, a3⟩⟩
  have hk2 : k < 16 := by omega
  have c1 : ¬ nI k = 16 := fun q => by have := (nI_eq (a := k) (b := 16) (by omega) (by omega)).mp q; omega
  have c2 : nI k < 16 := nI_lt (b := 16) hk2 (by omega)
  rw [if_neg c1, if_pos c2]
  obtain ⟨n, A2, B2, n1, n2, n3, n4, n5, n6, n7, n8, n9, n10, n11, n12, n13, n14⟩ := t_letters h hw hk2
  have ik : (10 : Int32) * B2 213 9 = nI (10 * k) := by rw [show B2 213 9 = nI k from n6.2.2.1, show (10 : Int32) = nI 10 from rfl, pu_mul]
  have pk : PX9_readsLetters_63 (nI n) B2 := by unfold PX9_readsLetters_63; rw [ik]; exact pu_in (by omega) (by omega)
  obtain ⟨B3, eB3⟩ : ∃ v, v = gu B2 218 (10 * k) (nI n) := ⟨_, rfl⟩
  have fB : ∀ x, x ≠ 218 → B3 x = B2 x := fun x a => by rw [eB3, gu_row a]
  have fB2 : ∀ j, j ≠ 10 * k → B3 218 j = B2 218 j := fun j a => by rw [eB3, gu_col a]
  have e63 : MX9_readsLetters B = BX9_readsLetters_76 (nI n) B3 := by
    rw [n13]
    unfold BX9_readsLetters_63
    rw [ik, nI_clamp (by omega), ← eB3]
  have hFB : tF A2 B2 A2 B3 := ⟨fun _ _ _ _ _ _ => rfl, fun x _ a => fB x a, fun j _ _ _ => by rw [fB 213 (by omega)]⟩
  have s3 : tS A2 B3 T tl (p + n) := n5.congr hFB n2 rfl n5.2.2.2.2.2.2.2.1 (by rw [fB 213 (by omega)]; exact n5.2.2.2.2.2.2.2.2)
  by_cases e : 97 ≤ T p ∧ T p ≤ 122
  · rw [if_pos e, if_neg one_ne]
    obtain ⟨A3, eA3⟩ : ∃ v, v = gu A2 204 k (nI n) := ⟨_, rfl⟩
    have fA : ∀ x, x ≠ 204 → A3 x = A2 x := fun x a => by rw [eA3, gu_row a]
    have e64 : MX6_scanLetters A = BX6_scanLetters_82 (nI n) A3 := by
      rw [n11]
      unfold BX6_scanLetters_64
      rw [show A2 202 0 = nI k from n6.2.1, pu_put (k := 203) (n := 16) kd204 hk2, ← eA3]
    have p64 : PX6_scanLetters_82 (nI n) A3 → PX6_scanLetters A := fun q => n12 (by
      unfold PX6_scanLetters_64
      rw [show A2 202 0 = nI k from n6.2.1, pu_put (k := 203) (n := 16) kd204 hk2, ← eA3]
      exact q)
    have hFA : tF A2 B2 A3 B3 := ⟨fun x _ _ a _ _ => fA x a, fun x _ a => fB x a, fun j _ _ _ => by rw [fB 213 (by omega)]⟩
    have s4 : tS A3 B3 T tl (p + n) := n5.congr hFA n2 (by rw [fA 201 (by omega)]) (by rw [fA 201 (by omega)]; exact n5.2.2.2.2.2.2.2.1) (by rw [fB 213 (by omega)]; exact n5.2.2.2.2.2.2.2.2)
    have w4 : tW A3 B3 k ll ww lw := n6.congr (by rw [fA 202 (by omega)]) (by rw [fB 213 (by omega)]) (fun w hw => ⟨by rw [eA3, gu_col (by omega)], by rw [fA 206 (by omega)]⟩) (fun j _ => by rw [fA 210 (by omega)]) (fun j hj => fB2 j (by omega))
    have h4 : A3 201 2 = 0 := by rw [fA 201 (by omega), n9, h2]
    have h0 : A3 201 0 = A 201 0 := s4.2.2.2.2.1.1.trans h.2.2.2.2.1.1.symm
    have hF4 : tF A B A3 B3 := n7.trans hFA
    have sm := c_small s4
    obtain ⟨i1, i2⟩ := m_isAt s4 (a := 97) (b := 122) (by omega) (by omega) (by omega)
    have i1 : PX9_isAt 97 122 B3 := i1
    have i2 : MX9_isAt 97 122 B3 = _ := i2
    unfold PX6_scanLetters_82 at p64
    unfold BX6_scanLetters_82 at e64
    unfold BX9_readsLetters_76 BX9_readsLetters_86 at e63
    rw [sm, c_fail, c_fail] at e64
    rw [sm, c_fail, c_fail] at p64
    simp only [m_fail] at e63
    by_cases hn2 : 2 ≤ n
    · have g1 : (2 : Int32) ≤ nI n := nI_le (a := 2) hn2 (by omega)
      have g2 : (1 : Int32) < nI n := nI_lt (a := 1) (by omega) (by omega)
      rw [if_pos g1] at e64
      rw [if_pos g2] at e63
      have p64' : PX6_scanLetters A := p64 ⟨fun _ _ => gZ_0, fun q => absurd g1 q⟩
      by_cases hnx : 97 ≤ T (p + n) ∧ T (p + n) ≤ 122
      · rw [if_pos hnx, if_neg one_ne] at e64
        rw [if_pos hnx] at i2
        obtain ⟨a1, a2, a3⟩ := t_fail (r := 2) s4 (by omega) (by omega)
        rw [e64, e63, b1]
        unfold PX6_scanWord_52 BX6_scanWord_52 PX9_readsWord_39 BX9_readsWord_39
        rw [i2, if_neg one_ne, if_neg one_ne, if_pos rfl, m_fail]
        exact ⟨fun _ _ => ⟨p64', fun q => absurd rfl q⟩, ⟨fun q => absurd q c1, fun _ => ⟨n14 pk, fun _ => ⟨i1, fun q => absurd q one_ne, fun _ => gZ_0⟩⟩⟩, Or.inr ⟨_, rfl, a1, hF4.trans a2, a3.trans h0⟩⟩
      · rw [if_neg hnx, if_pos rfl] at e64
        rw [if_neg hnx] at i2
        have hN : tN A3 B3 k n (fun i => T (p + i) - 97) := by
          refine ⟨hn2, n1, by rw [eA3, gu_at], by rw [eB3, gu_at], fun i hi => ?_⟩
          have z := n10 i hi
          have z2 := n3 i hi
          rw [Nat.mul_comm k 8]
          exact ⟨by show T (p + i) - 97 < 26; omega, by rw [fA 210 (by omega)]; exact z.1, by rw [fB2 _ (by omega)]; exact z.2⟩
        obtain ⟨l1, l2, l3⟩ := t_star (x := p) s4 w4 hk2 hN h4 (by omega)
        rw [e64, e63, b1, a1]
        unfold PX6_scanWord_52 BX6_scanWord_52 PX9_readsWord_39 BX9_readsWord_39
        rw [i2, if_neg one_ne, if_neg one_ne, if_pos rfl]
        exact ⟨fun _ _ => ⟨p64', fun _ => l1⟩, ⟨fun q => absurd q c1, fun _ => ⟨n14 pk, fun _ => ⟨i1, fun _ => l2, fun q => absurd rfl q⟩⟩⟩, l3.trans hF4 h0⟩
    · have g1 : ¬ (2 : Int32) ≤ nI n := nI_ge (a := n) (b := 2) (by omega) (by omega)
      have g2 : ¬ (1 : Int32) < nI n := nI_nlt (a := 1) (b := n) (by omega) (by omega)
      rw [if_neg g1] at e64
      rw [if_neg g2, if_pos trivial] at e63
      have p64' : PX6_scanLetters A := p64 ⟨fun q => absurd q g1, fun _ => gZ_0⟩
      obtain ⟨a1, a2, a3⟩ := t_fail (r := 1) s4 (by omega) (by omega)
      rw [e64, e63]
      unfold PX6_scanWord_52 BX6_scanWord_52 PX9_readsWord_39 BX9_readsWord_39
      rw [if_pos rfl, if_pos rfl]
      exact ⟨fun _ _ => ⟨p64', fun q => absurd rfl q⟩, ⟨fun q => absurd q c1, fun _ => ⟨n14 pk, fun q => absurd rfl q⟩⟩, Or.inr ⟨_, rfl, a1, hF4.trans a2, a3.trans h0⟩⟩
  · rw [if_neg e, if_pos rfl]
    have hn0 : n = 0 := by
      refine Classical.byContradiction fun q => e ?_
      have := n3 0 (by omega)
      exact this
    subst hn0
    have s5 : tS A B3 T tl p := h.mix s3
    have g2 : ¬ (1 : Int32) < nI 0 := nI_nlt (a := 1) (b := 0) (by omega) (by omega)
    unfold BX9_readsLetters_76 BX9_readsLetters_86 at e63
    simp only [m_fail] at e63
    rw [if_neg g2, if_pos trivial] at e63
    rw [e63]
    obtain ⟨a1, a2, a3⟩ := t_fail (r := 1) s5 (by omega) (by omega)
    unfold PX9_readsWord_39 BX9_readsWord_39
    rw [if_pos rfl]
    exact ⟨fun q => absurd rfl q, ⟨fun q => absurd q c1, fun _ => ⟨n14 pk, fun q => absurd rfl q⟩⟩, Or.inr ⟨_, rfl, a1, ((n7.trans hFB).mix).trans a2, a3⟩⟩
end TX7
