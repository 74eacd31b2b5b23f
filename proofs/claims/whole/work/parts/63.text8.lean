section TX8
variable {T : Nat → Nat} {tl : Nat}
/-- what the whole scan does in both -/
def tZ (A B : gV) (A2 : gV) (R : Int32 × gV) : Prop := A2 201 0 = A 201 0 ∧ ((∃ B2 k ll ww lw, R = (1, B2) ∧ tW A2 B2 k ll ww lw ∧ tF A B A2 B2 ∧ A2 201 2 = 0) ∨ (∃ B2, R = (0, B2) ∧ tE A2 B2 ∧ tF A B A2 B2))
theorem tE.ne {A B : gV} (h : tE A B) : ¬ A 201 2 = 0 := by
  obtain ⟨q, r, h1, h2, h3, h4, h5, h6, h7⟩ := h
  rw [h5]
  exact nI_ne0 (by omega) (by omega)
theorem t_stop {A0 B0 A B : gV} {f g : Nat} {x : Int32} (he : tE A B) (hF : tF A0 B0 A B) (h0 : A 201 0 = A0 201 0) : PX6_scan_24 (f + 1) x A ∧ PX9_isRight_15 (g + 1) 0 B ∧ tZ A0 B0 (BX6_scan_24 (f + 1) x A) (BX9_isRight_15 (g + 1) 0 B) := by
  have hf : ¬ MX6_hasFault A = 0 := by
    unfold MX6_hasFault
    rw [if_neg he.ne]
    exact one_ne
  have e1 : BX6_scan_24 (f + 1) x A = A := by
    simp only [BX6_scan_24, if_neg hf]
    split
    · rfl
    · split <;> rfl
  have e2 : BX9_isRight_15 (g + 1) 0 B = (0, B) := rfl
  rw [e1, e2]
  exact ⟨fun _ _ q => absurd q hf, ⟨fun _ => gZ_0, fun q => absurd rfl q⟩, h0, Or.inr ⟨_, rfl, he, hF⟩⟩
theorem t_loop {A0 B0 : gV} : ∀ (m k f g p : Nat) (A B : gV) (ll ww : Nat → Nat) (lw : Nat → Nat → Nat), k + m = 17 → m < f → m < g → tS A B T tl p → tW A B k ll ww lw → A 201 2 = 0 → tF A0 B0 A B → A 201 0 = A0 201 0 → PX6_scan_24 f (nI k) A ∧ PX9_isRight_15 g 1 B ∧ tZ A0 B0 (BX6_scan_24 f (nI k) A) (BX9_isRight_15 g 1 B) := by
  intro m
  induction m with
  | zero =>
    intro k f g p A B ll ww lw hk hf hg h hw
    have := hw.1
    omega
  | succ m ih =>
    intro k f g p A B ll ww lw hk hf hg h hw h2 hF h0
    obtain ⟨f, rfl⟩ : ∃ z, f = z + 1 := ⟨f - 1, by omega⟩
    obtain ⟨g, rfl⟩ : ∃ z, g = z + 1 := ⟨g - 1, by omega⟩
    have hk16 := hw.1
    have a0 : A 201 0 = nI tl := h.2.2.2.2.1.1
    have b6 : B 213 6 = nI tl := h.2.2.2.2.1.2
    have a5 : A 201 5 = nI p := h.2.2.2.2.2.2.2.1
    have b7 : B 213 7 = nI p := h.2.2.2.2.2.2.2.2
    have h1 := h.1
    have hp := h.2.1
    have c1 : ¬ (16 : Int32) < nI k := nI_nlt (a := 16) (b := k) hk16 (by omega)
    have hz : MX6_hasFault A = 0 := by unfold MX6_hasFault; rw [if_pos h2]
    by_cases e : tl ≤ p
    · have e1 : nI tl ≤ nI p := nI_le e (by omega)
      have r1 : BX6_scan_24 (f + 1) (nI k) A = A := by simp only [BX6_scan_24, if_neg c1, a0, a5, if_pos e1]
      have r2 : BX9_isRight_15 (g + 1) 1 B = (1, B) := by simp only [BX9_isRight_15, if_neg one_ne, b6, b7, if_pos e1]
      rw [r1, r2]
      refine ⟨fun _ q => absurd (by rw [a0, a5]; exact e1) q, ⟨fun q => absurd q one_ne, fun _ => ⟨fun _ => gZ_1, fun q => absurd (by rw [b6, b7]; exact e1) q⟩⟩, h0, Or.inl ⟨_, k, ll, ww, lw, rfl, hw, hF, h2⟩⟩
    · have e1 : ¬ nI tl ≤ nI p := nI_ge (by omega) (by omega)
      obtain ⟨w1, w2, w3⟩ := t_word h hw h2
      have r1 : BX6_scan_24 (f + 1) (nI k) A = BX6_scan_24 f (nI (k + 1)) (MX6_scanWord A) := by simp only [BX6_scan_24, if_neg c1, a0, a5, if_neg e1, if_pos hz, BX6_scan_52, nI_1]
      have r2 : BX9_isRight_15 (g + 1) 1 B = BX9_isRight_15 g (MX9_readsWord B).1 (MX9_readsWord B).2 := by simp only [BX9_isRight_15, if_neg one_ne, b6, b7, if_neg e1, BX9_isRight_34]
      have p1 : PX6_scan_24 f (nI (k + 1)) (MX6_scanWord A) → PX6_scan_24 (f + 1) (nI k) A := fun q => fun _ _ _ => ⟨w1, by unfold PX6_scan_52; rw [nI_1]; exact q⟩
      have p2 : PX9_isRight_15 g (MX9_readsWord B).1 (MX9_readsWord B).2 → PX9_isRight_15 (g + 1) 1 B := fun q => ⟨fun q => absurd q one_ne, fun _ => ⟨fun _ => gZ_1, fun _ => ⟨w2, q⟩⟩⟩
      rw [r1, r2]
      rcases w3 with ⟨B2, p3, l2, ww2, lw2, x1, x2, x3, x4, x5⟩ | ⟨B2, x1, x2, x3, x4⟩
      · rw [x1] at p2 ⊢
        obtain ⟨y1, y2, y3⟩ := ih (k + 1) f g p3 _ B2 l2 ww2 lw2 (by omega) (by omega) (by omega) x2 x3 x5 (hF.trans x4) (x2.2.2.2.2.1.1.trans (a0.symm.trans h0))
        exact ⟨p1 y1, p2 y2, y3⟩
      · rw [x1] at p2 ⊢
        obtain ⟨f, rfl⟩ : ∃ z, f = z + 1 := ⟨f - 1, by omega⟩
        obtain ⟨g, rfl⟩ : ∃ z, g = z + 1 := ⟨g - 1, by omega⟩
        obtain ⟨y1, y2, y3⟩ := t_stop (f := f) (g := g) (x := nI (k + 1)) x2 (hF.trans x3) (x4.trans h0)
        exact ⟨p1 y1, p2 y2, y3⟩
end TX8
