/-- a scan keeps the invariant -/
theorem scan_inv {V A2 B2 : gV} (h : gInv V) (hF : tF V A2 A2 B2) (h0 : A2 201 0 = V 201 0) : gInv B2 := by
  obtain ⟨hr, hs, ⟨hn, fr, hh⟩, tl, ht⟩ := h
  have f : ∀ x, x ≠ 201 → x ≠ 202 → x ≠ 204 → x ≠ 206 → x ≠ 210 → x ≠ 213 → x ≠ 218 → B2 x = V x := fun x a b c d e g i => (hF.2.1 x g i).trans (hF.1 x a b c d e)
  have f13 : ∀ j, j ≠ 7 → j ≠ 8 → j ≠ 9 → B2 213 j = V 213 j := fun j a b c => (hF.2.2 j a b c).trans (by rw [hF.1 213 (by omega) (by omega) (by omega) (by omega) (by omega)])
  refine ⟨hr.congr (fun c j s => ?_) (fun j _ => ?_), hs.congr ?_ (f13 3 (by omega) (by omega) (by omega)) (fun x a b => f x (by omega) (by omega) (by omega) (by omega) (by omega) (by omega) (by omega)) (f 216 (by omega) (by omega) (by omega) (by omega) (by omega) (by omega) (by omega)), ⟨hn, fr, hh.congr (fun x a b => f x (by omega) (by omega) (by omega) (by omega) (by omega) (by omega) (by omega)) (f13 4 (by omega) (by omega) (by omega)) (f 215 (by omega) (by omega) (by omega) (by omega) (by omega) (by omega) (by omega))⟩, tl, ht.congr ?_ (f13 6 (by omega) (by omega) (by omega)) (f 212 (by omega) (by omega) (by omega) (by omega) (by omega) (by omega) (by omega)) (f 217 (by omega) (by omega) (by omega) (by omega) (by omega) (by omega) (by omega)) (f 208 (by omega) (by omega) (by omega) (by omega) (by omega) (by omega) (by omega))⟩
  · have := S5_lt s
    show B2 (1 + c) j = V (1 + c) j
    rw [f (1 + c) (by omega) (by omega) (by omega) (by omega) (by omega) (by omega) (by omega)]
  · rw [f 214 (by omega) (by omega) (by omega) (by omega) (by omega) (by omega) (by omega)]
  · rw [f 0 (by omega) (by omega) (by omega) (by omega) (by omega) (by omega) (by omega)]
  · rw [hF.2.1 201 (by omega) (by omega)]
    exact h0
theorem sc_frame {V : gV} {tl : Nat} (ht : gTx V tl) : ∀ x, x ≠ 201 → x ≠ 202 → x ≠ 204 → x ≠ 206 → x ≠ 210 → MX6_scan V x = V x := by
  obtain ⟨-, -, -, h⟩ := g_scan (B := V) ht (fun _ _ => rfl)
  rcases h with ⟨B2, k, ll, ww, lw, -, -, h, -⟩ | ⟨B2, -, -, h⟩
  · exact h.1
  · exact h.1
theorem ok_fault {V : gV} (h : gInv V) (a : Int32) : okI (PX8_fault a V) (MX8_fault a V) (PX9_fault a) (MX9_fault a) := by
  have h' := h
  obtain ⟨hr, hs, hh, tl, ht⟩ := h
  unfold PX8_fault MX8_fault
  rcases in_nat (x := a) (a := 0) (b := 1) (V := V) (by omega) (by omega) with ca | ⟨ca, c, -, hc, ea⟩
  · have c8 : MX8_isBetween a 0 1 V = 0 := ca
    refine err_ok h' (r := -1) (by rw [if_pos c8]) (fun q => absurd c8 q) ?_ ?_
    · unfold PX9_fault; exact fun q => absurd ca q
    · unfold MX9_fault; rw [if_pos (show MX9_in a 0 1 V = 0 from ca)]
  have c8 : ¬ MX8_isBetween a 0 1 V = 0 := fun q => one_ne (ca.symm.trans q)
  have c9 : ∀ V1 : gV, ¬ MX9_in a 0 1 V1 = 0 := fun V1 q => one_ne (ca.symm.trans q)
  have fr := sc_frame ht
  obtain ⟨s1, s2, s3, s4⟩ := g_scan (B := MX6_scan V) ht (fun x hx => fr x (by omega) (by omega) (by omega) (by omega) (by omega))
  rw [if_neg c8]
  unfold BX8_fault_18
  rcases s4 with ⟨B2, k, ll, ww, lw, e1, e2, e3, e4⟩ | ⟨B2, e1, e2, e3⟩
  · have hz : MX6_hasFault (MX6_scan V) = 0 := by unfold MX6_hasFault; rw [if_pos e4]
    rw [if_pos hz]
    refine okI_of (r := -4) (V1 := MX6_scan V) (V2 := B2) rfl (fun _ => s1) ?_ ?_ (scan_inv h' e3 s3)
    · unfold PX9_fault
      exact fun _ => s2
    · unfold MX9_fault BX9_fault_15
      rw [if_neg (c9 _), e1]
      exact if_neg one_ne
  · have hz : ¬ MX6_hasFault (MX6_scan V) = 0 := by unfold MX6_hasFault; rw [if_neg e2.ne]; exact one_ne
    obtain ⟨q, r, r1, r2, r3, r4, r5, r6, r7⟩ := e2
    rw [if_neg hz, r4, r5]
    by_cases e0 : a = 0
    · rw [if_pos e0]
      refine okI_of (r := nI q) (V1 := MX6_scan V) (V2 := B2) rfl (fun _ => s1) ?_ ?_ (scan_inv h' e3 s3)
      · unfold PX9_fault
        exact fun _ => s2
      · unfold MX9_fault BX9_fault_15
        rw [if_neg (c9 _), e1, if_pos e0, ← r6]
        exact if_pos rfl
    · rw [if_neg e0]
      refine okI_of (r := nI r) (V1 := MX6_scan V) (V2 := B2) rfl (fun _ => s1) ?_ ?_ (scan_inv h' e3 s3)
      · unfold PX9_fault
        exact fun _ => s2
      · unfold MX9_fault BX9_fault_15
        rw [if_neg (c9 _), e1, if_neg e0, ← r7]
        exact if_pos rfl
