theorem upd_ne {f : Nat → Int32} {k j : Nat} {x : Int32} (h : j ≠ k) : upd f k x j = f j := if_neg h
theorem upd_at {f : Nat → Int32} {k : Nat} {x : Int32} : upd f k x k = x := if_pos rfl
theorem ok_set {V : gV} (h : gInv V) (a b : Int32) : ∃ j, j < 4 ∧ okI (PX8_set j (69 + 33 * j) a b V) (MX8_set j (69 + 33 * j) a b V) (PX9_set a b) (MX9_set a b) := by
  have h' := h
  obtain ⟨hr, hs, ⟨hn, fr, hh⟩, tl, ht⟩ := h
  refine ⟨fr, hh.2.1, ?_⟩
  have hr' := hr
  obtain ⟨nw, np, kp, d, lim, st, ln, wt, lt, g1, g2, g3, g4, g5⟩ := hr'
  unfold PX8_set MX8_set
  by_cases c : a = 0
  · have cb := in_nat (x := b) (a := 1) (b := 12) (V := V) (by omega) (by omega)
    rcases cb with cb | ⟨cb, l2, hl1, hl2, eb⟩
    · have cb8 : MX8_isBetween b 1 12 V = 0 := cb
      have cb9 : MX9_in b 1 12 V = 0 := cb
      refine err_ok h' (r := -1) (by rw [if_pos c, if_pos cb8]) (fun _ q => absurd cb8 q) ?_ ?_
      · unfold PX9_set; exact fun _ q => absurd cb9 q
      · unfold MX9_set; rw [if_pos c, if_pos cb9]
    · have e1 : ¬ (1 : Int32) = 0 := by decide
      have cb8 : ¬ MX8_isBetween b 1 12 V = 0 := fun q => e1 (cb.symm.trans q)
      rcases g5 with g5 | ⟨z, t, ms, gd, g5⟩
      · have hrun : V 24 0 = 0 := g5.1
        obtain ⟨rP, r1, r2, r3, r4, r5⟩ := rec_ok hr hh
        obtain ⟨k0, k1, k2⟩ := chg_ok (V1 := gu (MX1_record fr (69 + 33 * fr) V) 1 8 b) hr hh (fun x hx => gu_row (by omega))
        have hrun9 : MX9_runs (gu (MX1_record fr (69 + 33 * fr) V) 1 8 b) = 0 := by
          unfold MX9_runs
          rw [pc2, k2, if_neg (by rw [show V 214 2 = 0 from g5.2.1]; decide)]
        have cb9 : ¬ MX9_in b 1 12 (gu (MX1_record fr (69 + 33 * fr) V) 1 8 b) = 0 := cb8
        refine mut_ok hr hs hh ht (gu (MX1_record fr (69 + 33 * fr) V) 1 8 b) (upd (V 214) 11 b) (r := nI lim) (fun x hx _ _ _ _ => gu_row (by omega)) (by rw [gu_row (by omega), r1 0 (by omega)]) ?_ ?_ ?_ ?_ ?_
        · unfold BX8_set_43
          rw [if_pos c, if_neg cb8, if_pos hrun, r1 1 (by omega)]
          exact congrArg (fun z => (z, _)) g4.2.2.2.1.2.2.1
        · exact fun _ _ _ => rP
        · unfold PX9_set
          exact fun _ _ _ => k0
        · unfold MX9_set BX9_set_30
          rw [if_pos c, if_neg cb9, if_pos hrun9, pc11, k1, gu_of k1]
          exact congrArg (fun z => (z, _)) g4.2.2.2.1.2.2.2
        · have hc : ∀ q j, q < 33 → (q ≠ 0 ∨ j ≠ 8) → gu (MX1_record fr (69 + 33 * fr) V) 1 8 b (1 + q) j = V (1 + q) j := fun q j hq hj => by
            rw [gu_eq, if_neg (by omega), r1 (1 + q) (by omega)]
          have hm : ∀ j, j ≠ 11 → upd (V 214) 11 b j = V 214 j := fun j hj => upd_ne hj
          refine ⟨nw, np, kp, d, l2, st, ln, wt, lt, g1.congr (fun q j s => hc q j (by omega) (by omega)) (fun j s => hm j (by omega)), g2.congr (fun q j s => hc q j (by omega) (by omega)) (fun j s => hm j (by omega)), g3.congr (fun q j s => hc q j (by omega) (by omega)) (fun j s => hm j (by omega)), ?_, Or.inl (g5.congr g2.1 (hc 23 0 (by omega) (by omega)) ⟨hm 2 (by omega), fun p hp => hm _ (by omega)⟩)⟩
          obtain ⟨a1, a2, ⟨a3, a4, a5⟩, ⟨a6, a7, a8, a9⟩, a10, a11, a12⟩ := g4
          refine ⟨(hc 0 4 (by omega) (by omega)).trans (a1.trans (hm 8 (by omega)).symm), (hc 0 6 (by omega) (by omega)).trans (a2.trans (hm 9 (by omega)).symm), ⟨a3, (hc 0 7 (by omega) (by omega)).trans a4, (hm 10 (by omega)).trans a5⟩, ⟨hl1, hl2, ?_, ?_⟩, a10, (hc 0 5 (by omega) (by omega)).trans a11, (hm 12 (by omega)).trans a12⟩
          · show gu _ 1 8 b 1 8 = nI l2
            rw [gu_at, eb]
          · show upd (V 214) 11 b 11 = nI l2
            rw [upd_at, eb]
      · have hrun : ¬ V 24 0 = 0 := by rw [show V 24 0 = 1 from g5.1]; exact e1
        have hrun9 : ¬ MX9_runs V = 0 := by
          unfold MX9_runs
          rw [pc2, if_pos (show V 214 2 = 1 from g5.2.1)]
          exact e1
        have cb9 : ¬ MX9_in b 1 12 V = 0 := cb8
        refine err_ok h' (r := -2) (by rw [if_pos c, if_neg cb8, if_neg hrun]) (fun _ _ q => absurd q hrun) ?_ ?_
        · unfold PX9_set; exact fun _ _ q => absurd q hrun9
        · unfold MX9_set; rw [if_pos c, if_neg cb9, if_neg hrun9]
  · refine err_ok h' (r := -1) (by rw [if_neg c]) (fun q => absurd q c) ?_ ?_
    · unfold PX9_set; exact fun q => absurd q c
    · unfold MX9_set; rw [if_neg c]
