theorem mut_ok {V : gV} {hn fr tl : Nat} (hr : gRel (fun c => V (1 + c)) (V 214)) (hs : gSn V) (hh : gHs V hn fr) (ht : gTx V tl) {P8 : Prop} {M8 : Int32 × gV} {P9 : gV → Prop} {M9 : gV → Int32 × gV} {r : Int32} (V1 : gV) (m2 : Nat → Int32)
    (f1 : ∀ x, 34 ≤ x → x ≠ 202 → x ≠ 204 → x ≠ 206 → x ≠ 210 → V1 x = MX1_record fr (69 + 33 * fr) V x) (f0 : V1 0 = V 0) (h8 : M8 = (r, V1)) (hP8 : P8) (hP9 : P9 V1) (h9 : M9 V1 = (r, gs (MX9_changes V1) 214 m2)) (hnow : gRel (fun c => V1 (1 + c)) m2) : okI P8 M8 P9 M9 := by
  obtain ⟨-, r1, r2, r3, r4, r5⟩ := rec_ok hr hh
  have e4 : V1 213 4 = nI hn := by rw [f1 213 (by omega) (by omega) (by omega) (by omega) (by omega), r1 213 (by omega)]; exact hh.2.2.2.2.1
  obtain ⟨c0, c1, c2, c3, c4⟩ := mw_changes (V := V1) hh.1 e4
  have w : ∀ x, x < 213 → gs (MX9_changes V1) 214 m2 x = V1 x := fun x hx => by rw [gs_ne (by omega), c1 x (by omega) (by omega)]
  refine okI_of h8 hP8 hP9 h9 (gInv.step (V := V) hr hs hh ht (fun x a b => ?_) ⟨?_, ?_, ?_⟩ ?_ (fun j hj => ?_) ?_ ?_ ?_ ?_ ?_)
  · rw [w x (by omega), f1 x a (by omega) (by omega) (by omega) (by omega)]
  · rw [w 201 (by omega), f1 201 (by omega) (by omega) (by omega) (by omega) (by omega), r1 201 (by omega)]
  · rw [w 212 (by omega), f1 212 (by omega) (by omega) (by omega) (by omega) (by omega), r1 212 (by omega)]
  · rw [w 208 (by omega), f1 208 (by omega) (by omega) (by omega) (by omega) (by omega), r1 208 (by omega)]
  · rw [w 0 (by omega), f0]
  · rw [gs_ne (by omega), c2 j hj, f1 213 (by omega) (by omega) (by omega) (by omega) (by omega), r1 213 (by omega)]
  · rw [gs_ne (by omega), c3]
  · rw [gs_ne (by omega), c4, f1 215 (by omega) (by omega) (by omega) (by omega) (by omega), r1 215 (by omega), f1 214 (by omega) (by omega) (by omega) (by omega) (by omega), r1 214 (by omega)]
  · rw [gs_ne (by omega), c1 216 (by omega) (by omega), f1 216 (by omega) (by omega) (by omega) (by omega) (by omega), r1 216 (by omega)]
  · rw [gs_ne (by omega), c1 217 (by omega) (by omega), f1 217 (by omega) (by omega) (by omega) (by omega) (by omega), r1 217 (by omega)]
  · rw [gs_at]
    have e : (fun c => gs (MX9_changes V1) 214 m2 (1 + c)) = (fun c => gs (MX9_changes V1) 214 m2 (1 + c)) := rfl
    refine hnow.congr (fun c j s => ?_) (fun _ _ => rfl)
    have := S5_lt s
    show gs (MX9_changes V1) 214 m2 (1 + c) j = V1 (1 + c) j
    rw [w (1 + c) (by omega)]
/-- an error: nothing changes -/
theorem err_ok {V : gV} (h : gInv V) {P8 : Prop} {M8 : Int32 × gV} {P9 : gV → Prop} {M9 : gV → Int32 × gV} {r : Int32} (h8 : M8 = (r, V)) (hP8 : P8) (hP9 : P9 V) (h9 : M9 V = (r, V)) : okI P8 M8 P9 M9 := okI_of h8 hP8 hP9 h9 h
/-- the reference's row behind a change that is recorded -/
theorem chg_ok {V V1 : gV} {hn fr : Nat} (hr : gRel (fun c => V (1 + c)) (V 214)) (hh : gHs V hn fr) (f1 : ∀ x, 213 ≤ x → V1 x = MX1_record fr (69 + 33 * fr) V x) : PX9_changes V1 ∧ MX9_changes V1 214 = V 214 ∧ V1 214 = V 214 := by
  obtain ⟨-, r1, r2, r3, r4, r5⟩ := rec_ok hr hh
  have e4 : V1 213 4 = nI hn := by rw [f1 213 (by omega), r1 213 (by omega)]; exact hh.2.2.2.2.1
  obtain ⟨c0, c1, c2, c3, c4⟩ := mw_changes (V := V1) hh.1 e4
  have e : V1 214 = V 214 := by rw [f1 214 (by omega), r1 214 (by omega)]
  exact ⟨c0, (c1 214 (by omega) (by omega)).trans e, e⟩
theorem gu_of {V : gV} {k j : Nat} {x : Int32} {f : Nat → Int32} (h : V k = f) : gu V k j x = gs V k (upd f j x) := by
  unfold gu
  rw [h]
theorem ok_seed {V : gV} (h : gInv V) (a : Int32) : ∃ j, j < 4 ∧ okI (PX8_seed j (69 + 33 * j) a V) (MX8_seed j (69 + 33 * j) a V) (PX9_seed a) (MX9_seed a) := by
  have h' := h
  obtain ⟨hr, hs, ⟨hn, fr, hh⟩, tl, ht⟩ := h
  refine ⟨fr, hh.2.1, ?_⟩
  by_cases c : 0 ≤ a
  · have c2 : ¬ a < 0 := by rw [Int32.lt_iff_toInt_lt]; rw [Int32.le_iff_toInt_le] at c; exact Int.not_lt.mpr c
    obtain ⟨d2, hd2, ea⟩ := nI_of c2
    obtain ⟨rP, r1, r2, r3, r4, r5⟩ := rec_ok hr hh
    obtain ⟨k0, k1, k2⟩ := chg_ok (V1 := gu (MX1_record fr (69 + 33 * fr) V) 1 7 a) hr hh (fun x hx => gu_row (by omega))
    have hr' := hr
    obtain ⟨nw, np, kp, d, lim, st, ln, wt, lt, g1, g2, g3, g4, g5⟩ := hr'
    refine mut_ok hr hs hh ht (gu (MX1_record fr (69 + 33 * fr) V) 1 7 a) (upd (V 214) 10 a) (r := nI d) (fun x hx _ _ _ _ => gu_row (by omega)) (by rw [gu_row (by omega), r1 0 (by omega)]) ?_ ?_ ?_ ?_ ?_
    · unfold MX8_seed BX8_seed_17
      rw [if_pos c, r1 1 (by omega)]
      exact congrArg (fun z => (z, _)) g4.2.2.1.2.1
    · unfold PX8_seed
      exact fun _ => rP
    · unfold PX9_seed
      exact fun _ => k0
    · unfold MX9_seed BX9_seed_10
      rw [if_pos c, pc10, k1, gu_of k1]
      exact congrArg (fun z => (z, _)) g4.2.2.1.2.2
    · have hc : ∀ q j, q < 33 → (q ≠ 0 ∨ j ≠ 7) → gu (MX1_record fr (69 + 33 * fr) V) 1 7 a (1 + q) j = V (1 + q) j := fun q j hq hj => by
        rw [gu_eq, if_neg (by omega), r1 (1 + q) (by omega)]
      have hm : ∀ j, j ≠ 10 → upd (V 214) 10 a j = V 214 j := fun j hj => by simp [upd, hj]
      refine ⟨nw, np, kp, d2, lim, st, ln, wt, lt, g1.congr (fun q j s => hc q j (by omega) (by omega)) (fun j s => hm j (by omega)), g2.congr (fun q j s => hc q j (by omega) (by omega)) (fun j s => hm j (by omega)), g3.congr (fun q j s => hc q j (by omega) (by omega)) (fun j s => hm j (by omega)), ?_, ?_⟩
      · obtain ⟨a1, a2, ⟨a3, a4, a5⟩, ⟨a6, a7, a8, a9⟩, a10, a11, a12⟩ := g4
        refine ⟨(hc 0 4 (by omega) (by omega)).trans (a1.trans (hm 8 (by omega)).symm), (hc 0 6 (by omega) (by omega)).trans (a2.trans (hm 9 (by omega)).symm), ⟨hd2, ?_, ?_⟩, ⟨a6, a7, (hc 0 8 (by omega) (by omega)).trans a8, (hm 11 (by omega)).trans a9⟩, a10, (hc 0 5 (by omega) (by omega)).trans a11, (hm 12 (by omega)).trans a12⟩
        · show gu _ 1 7 a 1 7 = nI d2
          rw [gu_at, ea]
        · show upd (V 214) 10 a 10 = nI d2
          rw [← ea]; simp [upd]
      · rcases g5 with g5 | ⟨z, t, ms, gd, g5⟩
        · exact Or.inl (g5.congr g2.1 (hc 23 0 (by omega) (by omega)) ⟨hm 2 (by omega), fun p hp => hm _ (by omega)⟩)
        · exact Or.inr ⟨z, t, ms, gd, g5.congr (fun j s => hc 23 j (by omega) (by omega)) (fun j s => hm j (by omega))⟩
  · refine err_ok h' (r := -1) ?_ ?_ ?_ ?_
    · unfold MX8_seed; rw [if_neg c]
    · unfold PX8_seed; exact fun q => absurd q c
    · unfold PX9_seed; exact fun q => absurd q c
    · unfold MX9_seed; rw [if_neg c]
