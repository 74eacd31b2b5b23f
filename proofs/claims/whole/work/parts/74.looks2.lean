section LK2
variable {V : gV} {nw np kp d lim st z t ms gd : Nat} {ln wt : Nat → Nat} {lt : Nat → Nat → Nat}
theorem cn_or {f : Nat → Bool} : ∀ n, cn n (sOr f n) = sCt f n
  | 0 => rfl
  | n + 1 => by
    have ih := cn_or (f := f) n
    have hl := sOr_lt f n
    have e : sCt f (n + 1) = sCt f n + (if f n = true then 1 else 0) := rfl
    by_cases c : f n = true
    · have e2 : sOr f (n + 1) = 2 ^ n * 1 + sOr f n := by
        apply Nat.eq_of_testBit_eq
        intro k
        rw [sOr_bit, Nat.testBit_two_pow_mul_add _ hl, sOr_bit]
        by_cases h : k < n
        · rw [if_pos h, decide_eq_true h, decide_eq_true (show k < n + 1 by omega)]
        · rw [if_neg h]
          by_cases h2 : k = n
          · subst h2
            rw [Nat.sub_self, decide_eq_true (show k < k + 1 by omega), c]
            rfl
          · obtain ⟨m, hm⟩ : ∃ m, k - n = m + 1 := ⟨k - n - 1, by omega⟩
            rw [hm, Nat.testBit_succ, decide_eq_false (show ¬ k < n + 1 by omega)]
            simp
      rw [e, if_pos c, e2, cn_app n 1 1 _ hl, ih]
      rfl
    · have e2 : sOr f (n + 1) = 2 ^ n * 0 + sOr f n := by
        apply Nat.eq_of_testBit_eq
        intro k
        rw [Nat.mul_zero, Nat.zero_add, sOr_bit, sOr_bit]
        by_cases h : k < n
        · rw [decide_eq_true h, decide_eq_true (show k < n + 1 by omega)]
        · rw [decide_eq_false h]
          by_cases h2 : k = n
          · subst h2
            cases hf : f k with
            | true => exact absurd hf c
            | false => simp
          · rw [decide_eq_false (show ¬ k < n + 1 by omega)]
      rw [e, if_neg c, e2, cn_app n 1 0 _ hl, ih]
      rfl
theorem ok_count (h : gInv V) (a1 : Int32) : okR (PX8_count a1 V) (MX8_count a1 V) (PX9_count a1 V) (MX9_count a1 V) := by
  obtain ⟨⟨nw, np, kp, d, lim, st, ln, wt, lt, g1, g2, g3, g4, g5⟩, hs, ⟨hn, fr, hh⟩, tl, ht⟩ := h
  have d8 := cW_of g1
  have d9 := mW_of g1
  rcases in_nat (x := a1) (a := 0) (b := 15) (V := V) (by omega) (by omega) with ca | ⟨ca, c, -, hc, ea⟩
  · have c8 : MX8_isBetween a1 0 15 V = 0 := ca
    have kk : ∀ c : Int32, ¬ c < 0 → ¬ 15 < c → ¬ a1 = c := fun c p q e => by
      subst e
      have : MX9_in a1 0 15 V = 1 := by unfold MX9_in; rw [if_neg p, if_neg q]
      exact one_ne (this.symm.trans ca)
    have k0 := kk 0 (by decide) (by decide)
    have k1 := kk 1 (by decide) (by decide)
    have k2 := kk 2 (by decide) (by decide)
    have k3 := kk 3 (by decide) (by decide)
    have k4 := kk 4 (by decide) (by decide)
    have k5 := kk 5 (by decide) (by decide)
    have k6 := kk 6 (by decide) (by decide)
    have k7 := kk 7 (by decide) (by decide)
    have k8 := kk 8 (by decide) (by decide)
    have k9 := kk 9 (by decide) (by decide)
    have k10 := kk 10 (by decide) (by decide)
    have k11 := kk 11 (by decide) (by decide)
    have k12 := kk 12 (by decide) (by decide)
    have k13 := kk 13 (by decide) (by decide)
    have k14 := kk 14 (by decide) (by decide)
    have k15 := kk 15 (by decide) (by decide)
    unfold PX8_count MX8_count PX9_count MX9_count
    rw [if_pos c8, if_neg k0, if_neg k1, if_neg k2, if_neg k3, if_neg k4, if_neg k5, if_neg k6, if_neg k7, if_neg k8, if_neg k9, if_neg k10, if_neg k11, if_neg k12, if_neg k13, if_neg k14, if_neg k15]
    exact ⟨fun q => absurd c8 q, ⟨fun q => absurd q k0, fun _ => ⟨fun q => absurd q k1, fun _ => ⟨fun q => absurd q k2, fun _ => ⟨fun q => absurd q k3, fun _ => ⟨fun q => absurd q k4, fun _ => ⟨fun q => absurd q k5, fun _ => ⟨fun q => absurd q k6, fun _ => ⟨fun q => absurd q k7, fun _ => ⟨fun q => absurd q k8, fun _ => ⟨fun q => absurd q k9, fun _ => ⟨fun q => absurd q k10, fun _ => fun q => absurd q k11⟩⟩⟩⟩⟩⟩⟩⟩⟩⟩⟩, rfl⟩
  have e20 : V 2 0 = nI nw := g1.2.1
  have m0 : V 214 0 = nI nw := g1.2.2.1
  have e11 : V 11 0 = nI np := g2.2.1
  have m1 : V 214 1 = nI np := g2.2.2.1
  have e4 : V 1 4 = V 214 8 := g4.1
  have e6 : V 1 6 = V 214 9 := g4.2.1
  have e7 : V 1 7 = V 214 10 := (show V 1 7 = nI d from g4.2.2.1.2.1).trans g4.2.2.1.2.2.symm
  have el : V 1 8 = V 214 11 := (show V 1 8 = nI lim from g4.2.2.2.1.2.2.1).trans g4.2.2.2.1.2.2.2.symm
  obtain ⟨w1, w2⟩ := cw_weightSum d8
  obtain ⟨w3, w4⟩ := mw_weights d9
  have eh : V 67 0 = V 213 4 := hh.2.2.1.trans hh.2.2.2.2.1.symm
  have et : V 201 0 = V 213 6 := ht.2.1.trans ht.2.2.1.symm
  have es : (if V 0 4 = 0 then (0 : Int32) else 1) = (if V 213 3 = 0 then 0 else 1) := by
    rcases hs with ⟨a, b⟩ | ⟨a, b, -⟩ <;> rw [a, b]
  have key : (V 24 0 = 0 ∧ MX9_runs V = 0 ∧ V 214 2 = 0) ∨ (¬ V 24 0 = 0 ∧ ¬ MX9_runs V = 0 ∧ V 214 2 = 1 ∧ V 24 3 = V 214 3 ∧ V 24 4 = V 214 4 ∧ V 24 5 = V 214 5 ∧ V 24 6 = V 214 6 ∧ PX5_openPlaces V ∧ PX9_ones (V 214 7) V ∧ MX5_openPlaces V = MX9_ones (V 214 7) V) := by
    rcases g5 with g5 | ⟨z, t, ms, gd, g5⟩
    · obtain ⟨a, b⟩ := off_of g5
      exact Or.inl ⟨a, b, g5.2.1⟩
    · obtain ⟨r8, r9, a, b, -⟩ := run_of g5
      obtain ⟨h0, h2, hz, htt, hms, hgd, ⟨a1, a2⟩, hss, ⟨b1, b2⟩, h4, ⟨c1, c2⟩, ⟨q1, q2⟩, m7, hex⟩ := g5
      obtain ⟨o1, o2⟩ := cr_open d8 r8
      have hL := (cw_ln d8 hz).2
      obtain ⟨o3, o4⟩ := mw_ones (V := V) (x := sOr (fun k => gd.testBit (lt z k)) (ln z)) (F := ln z) (sOr_lt _ _) (by omega)
      rw [cn_or] at o4
      rw [m7]
      exact Or.inr ⟨a, b, h2, b1.trans b2.symm, h4, c1.trans c2.symm, q1.trans q2.symm, o1, o3, o2.trans o4.symm⟩
  have p0 : vp_in (0 : Int32) 246 := pu_in (n := 0) (by omega) (by omega)
  have p1 : vp_in (1 : Int32) 246 := pu_in (n := 1) (by omega) (by omega)
  have p2 : vp_in (2 : Int32) 246 := pu_in (n := 2) (by omega) (by omega)
  have p3 : vp_in (3 : Int32) 246 := pu_in (n := 3) (by omega) (by omega)
  have p4 : vp_in (4 : Int32) 246 := pu_in (n := 4) (by omega) (by omega)
  have p5 : vp_in (5 : Int32) 246 := pu_in (n := 5) (by omega) (by omega)
  have p6 : vp_in (6 : Int32) 246 := pu_in (n := 6) (by omega) (by omega)
  have p8 : vp_in (8 : Int32) 246 := pu_in (n := 8) (by omega) (by omega)
  have p9 : vp_in (9 : Int32) 246 := pu_in (n := 9) (by omega) (by omega)
  have p10 : vp_in (10 : Int32) 246 := pu_in (n := 10) (by omega) (by omega)
  unfold okR PX8_count MX8_count PX9_count MX9_count MX8_isBetween PX8_countOfHall MX8_countOfHall PX8_countOfRound MX8_countOfRound PX9_count_80 BX9_count_80 PX9_count_87 BX9_count_87 PX9_count_129 BX9_count_129
  rcases (show c = 0 ∨ c = 1 ∨ c = 2 ∨ c = 3 ∨ c = 4 ∨ c = 5 ∨ c = 6 ∨ c = 7 ∨ c = 8 ∨ c = 9 ∨ c = 10 ∨ c = 11 ∨ c = 12 ∨ c = 13 ∨ c = 14 ∨ c = 15 by omega) with rfl | rfl | rfl | rfl | rfl | rfl | rfl | rfl | rfl | rfl | rfl | rfl | rfl | rfl | rfl | rfl
  · have ea : a1 = 0 := ea
    subst ea
    simp (decide := true) [pc0, pc1, pc2, pc3, pc4, pc5, pc6, pc7, pc8, pc9, pc10, pc11, pc12, pc13, pc14, pc15, e20, m0, e11, m1, e4, e6, e7, el, w1, w2, w3, w4, eh, et, es, p0]
  · have ea : a1 = 1 := ea
    subst ea
    simp (decide := true) [pc0, pc1, pc2, pc3, pc4, pc5, pc6, pc7, pc8, pc9, pc10, pc11, pc12, pc13, pc14, pc15, e20, m0, e11, m1, e4, e6, e7, el, w1, w2, w3, w4, eh, et, es, p1]
  · have ea : a1 = 2 := ea
    subst ea
    rcases key with ⟨k1, k2, k3⟩ | ⟨k1, k2, k3, k4, k5, k6, k7, k8, k9, k10⟩
    · simp (decide := true) [pc0, pc1, pc2, pc3, pc4, pc5, pc6, pc7, pc8, pc9, pc10, pc11, pc12, pc13, pc14, pc15, k1, k2, k3, p2]
    · simp (decide := true) [pc0, pc1, pc2, pc3, pc4, pc5, pc6, pc7, pc8, pc9, pc10, pc11, pc12, pc13, pc14, pc15, k1, k2, k3, k4, k5, k6, k7, k8, k9, k10, p2]
  · have ea : a1 = 3 := ea
    subst ea
    rcases key with ⟨k1, k2, k3⟩ | ⟨k1, k2, k3, k4, k5, k6, k7, k8, k9, k10⟩
    · simp (decide := true) [pc0, pc1, pc2, pc3, pc4, pc5, pc6, pc7, pc8, pc9, pc10, pc11, pc12, pc13, pc14, pc15, k1, k2, k3, p3]
    · simp (decide := true) [pc0, pc1, pc2, pc3, pc4, pc5, pc6, pc7, pc8, pc9, pc10, pc11, pc12, pc13, pc14, pc15, k1, k2, k3, k4, k5, k6, k7, k8, k9, k10, p3]
  · have ea : a1 = 4 := ea
    subst ea
    rcases key with ⟨k1, k2, k3⟩ | ⟨k1, k2, k3, k4, k5, k6, k7, k8, k9, k10⟩
    · simp (decide := true) [pc0, pc1, pc2, pc3, pc4, pc5, pc6, pc7, pc8, pc9, pc10, pc11, pc12, pc13, pc14, pc15, k1, k2, k3, p4]
    · simp (decide := true) [pc0, pc1, pc2, pc3, pc4, pc5, pc6, pc7, pc8, pc9, pc10, pc11, pc12, pc13, pc14, pc15, k1, k2, k3, k4, k5, k6, k7, k8, k9, k10, p4]
  · have ea : a1 = 5 := ea
    subst ea
    rcases key with ⟨k1, k2, k3⟩ | ⟨k1, k2, k3, k4, k5, k6, k7, k8, k9, k10⟩
    · simp (decide := true) [pc0, pc1, pc2, pc3, pc4, pc5, pc6, pc7, pc8, pc9, pc10, pc11, pc12, pc13, pc14, pc15, k1, k2, k3, p5]
    · simp (decide := true) [pc0, pc1, pc2, pc3, pc4, pc5, pc6, pc7, pc8, pc9, pc10, pc11, pc12, pc13, pc14, pc15, k1, k2, k3, k4, k5, k6, k7, k8, k9, k10, p5]
  · have ea : a1 = 6 := ea
    subst ea
    rcases key with ⟨k1, k2, k3⟩ | ⟨k1, k2, k3, k4, k5, k6, k7, k8, k9, k10⟩
    · simp (decide := true) [pc0, pc1, pc2, pc3, pc4, pc5, pc6, pc7, pc8, pc9, pc10, pc11, pc12, pc13, pc14, pc15, k1, k2, k3, p6]
    · simp (decide := true) [pc0, pc1, pc2, pc3, pc4, pc5, pc6, pc7, pc8, pc9, pc10, pc11, pc12, pc13, pc14, pc15, k1, k2, k3, k4, k5, k6, k7, k8, k9, k10, p6]
  · have ea : a1 = 7 := ea
    subst ea
    rcases key with ⟨k1, k2, k3⟩ | ⟨k1, k2, k3, k4, k5, k6, k7, k8, k9, k10⟩
    · simp (decide := true) [pc0, pc1, pc2, pc3, pc4, pc5, pc6, pc7, pc8, pc9, pc10, pc11, pc12, pc13, pc14, pc15, k1, k2, k3]
    · simp (decide := true) [pc0, pc1, pc2, pc3, pc4, pc5, pc6, pc7, pc8, pc9, pc10, pc11, pc12, pc13, pc14, pc15, k1, k2, k3, k4, k5, k6, k7, k8, k9, k10]
  · have ea : a1 = 8 := ea
    subst ea
    simp (decide := true) [pc0, pc1, pc2, pc3, pc4, pc5, pc6, pc7, pc8, pc9, pc10, pc11, pc12, pc13, pc14, pc15, e20, m0, e11, m1, e4, e6, e7, el, w1, w2, w3, w4, eh, et, es, p8]
  · have ea : a1 = 9 := ea
    subst ea
    simp (decide := true) [pc0, pc1, pc2, pc3, pc4, pc5, pc6, pc7, pc8, pc9, pc10, pc11, pc12, pc13, pc14, pc15, e20, m0, e11, m1, e4, e6, e7, el, w1, w2, w3, w4, eh, et, es, p9]
  · have ea : a1 = 10 := ea
    subst ea
    simp (decide := true) [pc0, pc1, pc2, pc3, pc4, pc5, pc6, pc7, pc8, pc9, pc10, pc11, pc12, pc13, pc14, pc15, e20, m0, e11, m1, e4, e6, e7, el, w1, w2, w3, w4, eh, et, es, p10]
  · have ea : a1 = 11 := ea
    subst ea
    simp (decide := true) [pc0, pc1, pc2, pc3, pc4, pc5, pc6, pc7, pc8, pc9, pc10, pc11, pc12, pc13, pc14, pc15, e20, m0, e11, m1, e4, e6, e7, el, w1, w2, w3, w4, eh, et, es]
  · have ea : a1 = 12 := ea
    subst ea
    simp (decide := true) [pc0, pc1, pc2, pc3, pc4, pc5, pc6, pc7, pc8, pc9, pc10, pc11, pc12, pc13, pc14, pc15, e20, m0, e11, m1, e4, e6, e7, el, w1, w2, w3, w4, eh, et, es]
  · have ea : a1 = 13 := ea
    subst ea
    simp (decide := true) [pc0, pc1, pc2, pc3, pc4, pc5, pc6, pc7, pc8, pc9, pc10, pc11, pc12, pc13, pc14, pc15, e20, m0, e11, m1, e4, e6, e7, el, w1, w2, w3, w4, eh, et, es]
  · have ea : a1 = 14 := ea
    subst ea
    simp (decide := true) [pc0, pc1, pc2, pc3, pc4, pc5, pc6, pc7, pc8, pc9, pc10, pc11, pc12, pc13, pc14, pc15, e20, m0, e11, m1, e4, e6, e7, el, w1, w2, w3, w4, eh, et, es]
  · have ea : a1 = 15 := ea
    subst ea
    simp (decide := true) [pc0, pc1, pc2, pc3, pc4, pc5, pc6, pc7, pc8, pc9, pc10, pc11, pc12, pc13, pc14, pc15, e20, m0, e11, m1, e4, e6, e7, el, w1, w2, w3, w4, eh, et, es]
end LK2
