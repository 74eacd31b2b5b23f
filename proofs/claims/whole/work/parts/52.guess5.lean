theorem guess_ok {V W : gV} {nw np kp d lim st z t ms gd c : Nat} {ln wt : Nat → Nat} {lt : Nat → Nat → Nat} (g1 : rWd (fun c => V (1 + c)) (W 214) nw ln wt lt) (g2 : rBn (fun c => V (1 + c)) (W 214) np) (g3 : rPs (fun c => V (1 + c)) (W 214) kp) (g4' : rNm (fun c => V (1 + c)) (W 214) np d lim st) (g5 : rOn (fun c => V (1 + c)) (W 214) nw np lim ln lt z t ms gd) (hc : c < 26) :
    PX5_guessLetter (nI c) V ∧ PX9_guess_41 (nI c) W ∧ (∀ x, x = 0 ∨ 34 ≤ x → (MX5_guessLetter (nI c) V).2 x = V x) ∧ ∃ r m2, (MX5_guessLetter (nI c) V).1 = nI r ∧ BX9_guess_41 (nI c) W = (nI r, gs W 214 m2) ∧ gRel (fun x => (MX5_guessLetter (nI c) V).2 (1 + x)) m2 := by
  have hn := g2.1
  have ht : t < np := g5.2.2.2.1
  have o9 : V 24 3 = nI t := g5.2.2.2.2.2.2.2.2.1.1
  have o9' : W 214 3 = nI t := g5.2.2.2.2.2.2.2.2.1.2
  have o7' : W 214 13 = nI z := g5.2.2.2.2.2.2.1.2
  have o3 : z < nw := g5.2.2.1
  have z4 : ∀ V1 : gV, MX9_at (nI t) 4 V1 = nI (192 + 6 * t + 4) := fun V1 => at_nat (w := 4) (by omega) (by omega)
  have i4 := pu_in (show 192 + 6 * t + 4 < 246 by omega) (show 246 < 2 ^ 31 by omega)
  obtain ⟨k1, k2⟩ := mw_places (V := W) (mW_of g1) o3 (show c < 2 ^ 31 by omega)
  obtain ⟨u1, u2, u3, u4, u5, u6⟩ := g2.2.2.2.1 t ht
  have u5 : V 21 t = W 214 (192 + 6 * t + 4) := u5
  have eC : MX5_guessLetter (nI c) V = (if V 21 t = nI c then BX5_guessLetter_28 (nI c) (nI t) 1 V else BX5_guessLetter_28 (nI c) (nI t) 0 V) := by
    unfold MX5_guessLetter
    rw [o9, pu_at (k := 20) (n := 5) kd21 (by omega)]
  have pC : (V 21 t = nI c → PX5_guessLetter_28 (nI c) (nI t) 1 V) → (¬ V 21 t = nI c → PX5_guessLetter_28 (nI c) (nI t) 0 V) → PX5_guessLetter (nI c) V := by
    unfold PX5_guessLetter
    rw [o9, pu_at (k := 20) (n := 5) kd21 (by omega)]
    exact fun a b => ⟨a, b⟩
  have eM : BX9_guess_41 (nI c) W = (if V 21 t = nI c then BX9_guess_80 (nI c) (nI (sPl ln lt z c)) (nI t) 1 W else BX9_guess_80 (nI c) (nI (sPl ln lt z c)) (nI t) 0 W) := by
    unfold BX9_guess_41
    rw [pc3, pc13, o9', o7', k2, z4, nI_clamp (by omega), u5]
  have pM : (V 21 t = nI c → PX9_guess_80 (nI c) (nI (sPl ln lt z c)) (nI t) 1 W) → (¬ V 21 t = nI c → PX9_guess_80 (nI c) (nI (sPl ln lt z c)) (nI t) 0 W) → PX9_guess_41 (nI c) W := by
    unfold PX9_guess_41
    rw [pc3, pc13, o9', o7', k2, z4, nI_clamp (by omega), ← u5]
    exact fun a b => ⟨k1, i4, a, b⟩
  by_cases h : V 21 t = nI c
  · rw [eC, eM, if_pos h, if_pos h]
    obtain ⟨v1, q, hq, v2⟩ : V 23 t = W 214 (192 + 6 * t + 5) ∧ ∃ q, q < np ∧ W 214 (192 + 6 * t + 5) = nI q := by
      rcases u6 with u6 | u6
      · exfalso
        rw [← u5, h] at u6
        have := (nI_eq (a := c) (b := 26) (by omega) (by omega)).mp u6
        omega
      · exact u6
    obtain ⟨a1, a2, a3, a4⟩ := guess_go (fl := 1) (q := q) g1 g2 g3 g4' g5 hc hq (Or.inr ⟨one_ne, v1.trans v2, v2⟩)
    exact ⟨pC (fun _ => a1) (fun q => absurd h q), pM (fun _ => a2) (fun q => absurd h q), a3, a4⟩
  · rw [eC, eM, if_neg h, if_neg h]
    obtain ⟨a1, a2, a3, a4⟩ := guess_go (fl := 0) (q := t) g1 g2 g3 g4' g5 hc ht (Or.inl ⟨rfl, rfl⟩)
    exact ⟨pC (fun q => absurd q h) (fun _ => a1), pM (fun q => absurd q h) (fun _ => a2), a3, a4⟩
