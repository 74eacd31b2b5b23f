theorem t_scan {A B : gV} {T : Nat → Nat} {tl : Nat} (ht : tl ≤ 120) (h3 : ∀ i, i < tl → 32 ≤ T i ∧ T i ≤ 126) (h4 : ∀ i, tl ≤ i → T i = 0) (a0 : A 201 0 = nI tl) (b6 : B 213 6 = nI tl) (aT : ∀ i, i < tl → A 212 i = nI (T i)) (bT : ∀ i, i < tl → B 217 i = nI (T i)) : PX6_scan A ∧ PX9_isRight B ∧ tZ A B (MX6_scan A) (MX9_isRight B) := by
  obtain ⟨A1, eA⟩ : ∃ v, v = gu (gu (gu A 202 0 0) 201 5 0) 201 2 0 := ⟨_, rfl⟩
  obtain ⟨B1, eB⟩ : ∃ v, v = gu (gu B 213 7 0) 213 9 0 := ⟨_, rfl⟩
  have hF : tF A B A1 B1 := ⟨fun x a b _ _ _ => by rw [eA, gu_row a, gu_row a, gu_row b], fun x a _ => by rw [eB, gu_row a, gu_row a], fun j a _ b => by rw [eB, gu_col b, gu_col a]⟩
  have e0 : A1 201 0 = A 201 0 := by rw [eA, gu_col (by omega), gu_col (by omega), gu_row (by omega)]
  have hS : tS A1 B1 T tl 0 := by
    refine ⟨ht, by omega, h3, h4, ⟨e0.trans a0, (hF.2.2 6 (by omega) (by omega) (by omega)).trans b6⟩, fun i hi => ?_, fun i hi => ?_, ?_, ?_⟩
    · rw [hF.1 212 (by omega) (by omega) (by omega) (by omega) (by omega)]; exact aT i hi
    · rw [hF.2.1 217 (by omega) (by omega)]; exact bT i hi
    · rw [eA, gu_col (by omega), gu_at]; rfl
    · rw [eB, gu_col (by omega), gu_at]; rfl
  have hW : tW A1 B1 0 (fun _ => 0) (fun _ => 0) (fun _ _ => 0) := ⟨by omega, by rw [eA, gu_row (by omega), gu_row (by omega), gu_at]; rfl, by rw [eB, gu_at]; rfl, fun w hw => absurd hw (by omega)⟩
  have h2 : A1 201 2 = 0 := by rw [eA, gu_at]
  obtain ⟨w1, w2, w3⟩ := t_word hS hW h2
  unfold PX6_scan PX6_scan_8 PX6_scan_13 PX6_scan_18 PX6_scan_22 MX6_scan BX6_scan_8 BX6_scan_13 BX6_scan_18 BX6_scan_22 PX9_isRight PX9_isRight_5 PX9_isRight_10 PX9_isRight_14 MX9_isRight BX9_isRight_5 BX9_isRight_10 BX9_isRight_14
  rw [← eA, ← eB]
  rcases w3 with ⟨B2, p3, l2, ww2, lw2, x1, x2, x3, x4, x5⟩ | ⟨B2, x1, x2, x3, x4⟩
  · rw [x1]
    obtain ⟨y1, y2, y3⟩ := t_loop (A0 := A) (B0 := B) 16 1 1000 1000 p3 _ B2 l2 ww2 lw2 (by omega) (by omega) (by omega) x2 x3 x5 (hF.trans x4) (x2.2.2.2.2.1.1.trans a0.symm)
    exact ⟨⟨w1, y1⟩, ⟨w2, y2⟩, y3⟩
  · rw [x1]
    obtain ⟨y1, y2, y3⟩ := t_stop (f := 999) (g := 999) (x := nI 1) x2 (hF.trans x3) (x4.trans e0)
    exact ⟨⟨w1, y1⟩, ⟨w2, y2⟩, y3⟩
/-- the scan over the invariant -/
theorem g_scan {V B : gV} {tl : Nat} (ht : gTx V tl) (hB : ∀ x, 213 ≤ x → B x = V x) : PX6_scan V ∧ PX9_isRight B ∧ tZ V B (MX6_scan V) (MX9_isRight B) := by
  obtain ⟨t1, t2, t3, t4, t5⟩ := ht
  have hT : ∀ i, ∃ c, (i < tl → 32 ≤ c ∧ c ≤ 126 ∧ V 212 i = nI c ∧ V 217 i = nI c) ∧ (tl ≤ i → c = 0) := fun i => by
    by_cases e : i < tl
    · obtain ⟨c, q⟩ := t4 i e
      exact ⟨c, fun _ => q, fun q2 => absurd e (by omega)⟩
    · exact ⟨0, fun q => absurd q e, fun _ => rfl⟩
  refine t_scan (T := fun i => Classical.choose (hT i)) t1 (fun i hi => ?_) (fun i hi => (Classical.choose_spec (hT i)).2 hi) t2 (by rw [hB 213 (by omega)]; exact t3) (fun i hi => ((Classical.choose_spec (hT i)).1 hi).2.2.1) (fun i hi => by rw [hB 217 (by omega)]; exact ((Classical.choose_spec (hT i)).1 hi).2.2.2)
  have q := (Classical.choose_spec (hT i)).1 hi
  exact ⟨q.1, q.2.1⟩
