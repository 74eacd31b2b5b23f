section FPD
theorem fp_i2f {a l : Nat} (h1 : 2 ^ l ≤ a) (h2 : a < 2 ^ (l + 1)) (hl : l ≤ 23) : FP.i2f (nI a) = UInt32.ofNat ((l + 127) * 8388608 + (a * 2 ^ (23 - l) - 8388608)) := by
  have p : 2 ^ (l + 1) ≤ 2 ^ 24 := Nat.pow_le_pow_right (by omega) (by omega)
  obtain ⟨r1, r2, r3⟩ := fp_int (e := 0) h1 h2 hl (by omega) (by omega)
  show UInt32.ofNat (FP.Core.encode FP.Core.b32 (FP.Core.roundRatio FP.Core.b32 (decide ((nI a).toInt < 0)) (nI a).toInt.natAbs 1 0)) = _
  rw [nI_toInt (by omega), decide_eq_false (show ¬ (a : Int) < 0 by omega), Int.natAbs_natCast, r1, fp_enc r2 (l + 127) (by omega) (by omega)]
theorem fp_nb {x d lo hi : Nat} (hd : 0 < d) (h1 : lo * d ≤ x) (h2 : x ≤ hi * d) : lo ≤ FP.Core.nearest x d ∧ FP.Core.nearest x d ≤ hi := by
  have a1 : lo ≤ x / d := (Nat.le_div_iff_mul_le hd).mpr h1
  have a2 : x / d ≤ hi := Nat.div_le_of_le_mul (by rw [Nat.mul_comm]; exact h2)
  have a3 := Nat.div_add_mod x d
  unfold FP.Core.nearest
  by_cases e : x / d = hi
  · have a4 : x % d = 0 := by
      rw [e, Nat.mul_comm] at a3
      omega
    rw [a4, if_pos (by omega)]
    exact ⟨a1, a2⟩
  · by_cases c1 : 2 * (x % d) < d
    · rw [if_pos c1]; omega
    · by_cases c2 : d < 2 * (x % d)
      · rw [if_neg c1, if_pos c2]; omega
      · rw [if_neg c1, if_neg c2]; omega
theorem fp_quot {c d : Nat} {e : Int} (hc : 8388608 ≤ c ∧ c < 16777216) (hd : 8388608 ≤ d ∧ d < 16777216) (he : -20 ≤ e) (he2 : e ≤ 0) (h0 : e = 0 → c ≤ d) : ∃ E T, 2 ≤ E ∧ E ≤ 127 ∧ T < 8388608 ∧ FP.Core.encode FP.Core.b32 (FP.Core.roundRatio FP.Core.b32 false c d e) = E * 8388608 + T := by
  have lc : c.log2 = 23 := fp_log (by omega) (by omega)
  have ld : d.log2 = 23 := fp_log (by omega) (by omega)
  have k0 : (((23 : Nat) : Int) - ((23 : Nat) : Int)).toNat = 0 := by omega
  have k1 : (-(((23 : Nat) : Int) - ((23 : Nat) : Int))).toNat = 0 := by omega
  by_cases hcd : d ≤ c
  · have hL : FP.Core.leading c d = 0 := by
      unfold FP.Core.leading
      rw [lc, ld]
      show (if d * 2 ^ (((23 : Nat) : Int) - ((23 : Nat) : Int)).toNat ≤ c * 2 ^ (-(((23 : Nat) : Int) - ((23 : Nat) : Int))).toNat then (((23 : Nat) : Int) - ((23 : Nat) : Int)) else (((23 : Nat) : Int) - ((23 : Nat) : Int)) - 1) = 0
      rw [k0, k1, Nat.pow_zero, Nat.mul_one, Nat.mul_one, if_pos hcd]
      omega
    obtain ⟨N, hN⟩ : ∃ N, FP.Core.nearest (c * 8388608) d = N := ⟨_, rfl⟩
    obtain ⟨n1, n2⟩ := fp_nb (x := c * 8388608) (d := d) (lo := 8388608) (hi := 16777216) (by omega) (by omega) (by omega)
    rw [hN] at n1 n2
    have hN2 : FP.Core.nearest (c * 2 ^ ((23 : Int) - 0).toNat) (d * 2 ^ ((0 : Int) - 23).toNat) = N := by
      rw [show ((23 : Int) - 0).toNat = 23 by omega, show ((0 : Int) - 23).toNat = 0 by omega, Nat.pow_zero, Nat.mul_one]
      exact hN
    by_cases hb : N < 16777216
    · rw [fp_rnd (by omega) hL (by omega) (by omega) hN2 hb, fp_enc n1 (e + 127).toNat (by omega) (by omega)]
      exact ⟨(e + 127).toNat, N - 8388608, by omega, by omega, by omega, rfl⟩
    · have hN3 : N = 16777216 := by omega
      subst hN3
      have e0 : e ≠ 0 := fun q => by
        have c1 : c = d := by have := h0 q; omega
        subst c1
        have := fp_near (X := 8388608) (d := c) (by omega)
        rw [Nat.mul_comm] at this
        omega
      rw [fp_rndc (by omega) hL (by omega) (by omega) hN2, fp_enc (by omega) (e + 128).toNat (by omega) (by omega)]
      exact ⟨(e + 128).toNat, 0, by omega, by omega, by omega, by omega⟩
  · have hL : FP.Core.leading c d = -1 := by
      unfold FP.Core.leading
      rw [lc, ld]
      show (if d * 2 ^ (((23 : Nat) : Int) - ((23 : Nat) : Int)).toNat ≤ c * 2 ^ (-(((23 : Nat) : Int) - ((23 : Nat) : Int))).toNat then (((23 : Nat) : Int) - ((23 : Nat) : Int)) else (((23 : Nat) : Int) - ((23 : Nat) : Int)) - 1) = -1
      rw [k0, k1, Nat.pow_zero, Nat.mul_one, Nat.mul_one, if_neg hcd]
      omega
    obtain ⟨N, hN⟩ : ∃ N, FP.Core.nearest (c * 16777216) d = N := ⟨_, rfl⟩
    obtain ⟨n1, n2⟩ := fp_nb (x := c * 16777216) (d := d) (lo := 8388608) (hi := 16777216) (by omega) (by omega) (by omega)
    rw [hN] at n1 n2
    have hN2 : FP.Core.nearest (c * 2 ^ ((23 : Int) - (-1)).toNat) (d * 2 ^ ((-1 : Int) - 23).toNat) = N := by
      rw [show ((23 : Int) - (-1)).toNat = 24 by omega, show ((-1 : Int) - 23).toNat = 0 by omega, Nat.pow_zero, Nat.mul_one]
      exact hN
    by_cases hb : N < 16777216
    · rw [fp_rnd (by omega) hL (by omega) (by omega) hN2 hb, fp_enc n1 (e + 126).toNat (by omega) (by omega)]
      exact ⟨(e + 126).toNat, N - 8388608, by omega, by omega, by omega, rfl⟩
    · have hN3 : N = 16777216 := by omega
      subst hN3
      rw [fp_rndc (by omega) hL (by omega) (by omega) hN2, fp_enc (by omega) (e + 127).toNat (by omega) (by omega)]
      exact ⟨(e + 127).toNat, 0, by omega, by omega, by omega, by omega⟩
theorem fp_div {a b : Nat} (ha : 0 < a) (hab : a ≤ b) (hb : b ≤ 1584) : ∃ E T, 2 ≤ E ∧ E ≤ 127 ∧ T < 8388608 ∧ FP.fdiv (FP.i2f (nI a)) (FP.i2f (nI b)) = UInt32.ofNat (E * 8388608 + T) := by
  obtain ⟨la, a1, a2⟩ := fp_lg ha
  obtain ⟨lb, b1, b2⟩ := fp_lg (T := b) (by omega)
  have a3 : la < 11 := fp_lb a1 (k := 11) (by omega)
  have b3 : lb < 11 := fp_lb b1 (k := 11) (by omega)
  have l1 : la < lb + 1 := fp_lb a1 (by omega)
  obtain ⟨-, x1, x2⟩ := fp_int (e := 0) a1 a2 (by omega) (by omega) (by omega)
  obtain ⟨-, y1, y2⟩ := fp_int (e := 0) b1 b2 (by omega) (by omega) (by omega)
  obtain ⟨E, T, q1, q2, q3, q4⟩ := fp_quot (e := (((la + 127 : Nat) : Int) - 150) - (((lb + 127 : Nat) : Int) - 150)) ⟨x1, x2⟩ ⟨y1, y2⟩ (by omega) (by omega) (fun q => by
    have : la = lb := by omega
    subst this
    exact Nat.mul_le_mul_right _ hab)
  refine ⟨E, T, q1, q2, q3, ?_⟩
  rw [fp_i2f a1 a2 (by omega), fp_i2f b1 b2 (by omega)]
  show UInt32.ofNat (FP.Core.encode FP.Core.b32 (FP.Core.quotient FP.Core.b32 (FP.Core.decode FP.Core.b32 (UInt32.ofNat ((la + 127) * 8388608 + (a * 2 ^ (23 - la) - 8388608))).toNat) (FP.Core.decode FP.Core.b32 (UInt32.ofNat ((lb + 127) * 8388608 + (b * 2 ^ (23 - lb) - 8388608))).toNat))) = _
  rw [fp_toNat (by omega), fp_toNat (by omega), fp_dec (by omega) (by omega) (by omega), fp_dec (by omega) (by omega) (by omega), show 8388608 + (a * 2 ^ (23 - la) - 8388608) = a * 2 ^ (23 - la) by omega, show 8388608 + (b * 2 ^ (23 - lb) - 8388608) = b * 2 ^ (23 - lb) by omega]
  show UInt32.ofNat (FP.Core.encode FP.Core.b32 (if b * 2 ^ (23 - lb) = 0 then (if a * 2 ^ (23 - la) = 0 then .nan else .inf (false != false)) else FP.Core.roundRatio FP.Core.b32 (false != false) (a * 2 ^ (23 - la)) (b * 2 ^ (23 - lb)) ((((la + 127 : Nat) : Int) - 150) - (((lb + 127 : Nat) : Int) - 150)))) = _
  rw [if_neg (by omega)]
  show UInt32.ofNat (FP.Core.encode FP.Core.b32 (FP.Core.roundRatio FP.Core.b32 false (a * 2 ^ (23 - la)) (b * 2 ^ (23 - lb)) ((((la + 127 : Nat) : Int) - 150) - (((lb + 127 : Nat) : Int) - 150)))) = _
  rw [q4]
theorem fp_div0 {b : Nat} (h0 : 0 < b) (hb : b ≤ 1584) : FP.fdiv (FP.i2f (nI 0)) (FP.i2f (nI b)) = UInt32.ofNat 0 := by
  obtain ⟨lb, b1, b2⟩ := fp_lg h0
  have b3 : lb < 11 := fp_lb b1 (k := 11) (by omega)
  obtain ⟨-, y1, y2⟩ := fp_int (e := 0) b1 b2 (by omega) (by omega) (by omega)
  have d0 : FP.Core.decode FP.Core.b32 (FP.i2f (nI 0)).toNat = .fin false 0 (-149) := by decide +kernel
  show UInt32.ofNat (FP.Core.encode FP.Core.b32 (FP.Core.quotient FP.Core.b32 (FP.Core.decode FP.Core.b32 (FP.i2f (nI 0)).toNat) (FP.Core.decode FP.Core.b32 (FP.i2f (nI b)).toNat))) = _
  rw [d0, fp_i2f b1 b2 (by omega), fp_toNat (by omega), fp_dec (by omega) (by omega) (by omega), show 8388608 + (b * 2 ^ (23 - lb) - 8388608) = b * 2 ^ (23 - lb) by omega]
  show UInt32.ofNat (FP.Core.encode FP.Core.b32 (if b * 2 ^ (23 - lb) = 0 then (if 0 = 0 then .nan else .inf (false != false)) else FP.Core.roundRatio FP.Core.b32 (false != false) 0 (b * 2 ^ (23 - lb)) ((-149) - (((lb + 127 : Nat) : Int) - 150)))) = _
  rw [if_neg (by omega)]
  unfold FP.Core.roundRatio
  rw [if_pos rfl]
  decide +kernel
/-- the chance of a part a of b: both have the same bits -/
theorem fp_chance {a b : Nat} {V V1 : gV} (h0 : 0 < b) (hab : a ≤ b) (hb : b ≤ 1584) : (PX8_chanceOf (nI a) (nI b) V ∧ PX8_bitsOf (MX8_chanceOf (nI a) (nI b) V) V ∧ vf_n32 (FP.fdiv (FP.i2f (nI a)) (FP.i2f (nI b)))) ∧ MX8_bitsOf (MX8_chanceOf (nI a) (nI b) V) V = MJxf58ca_floatToIntBits_5c35a (FP.fdiv (FP.i2f (nI a)) (FP.i2f (nI b))) V1 := by
  have hc : MX8_chanceOf (nI a) (nI b) V = FP.fdiv (FP.i2f (nI a)) (FP.i2f (nI b)) := by
    unfold MX8_chanceOf
    exact if_neg (nI_ge (a := 0) (b := b) h0 (by omega))
  rw [hc]
  unfold PX8_chanceOf
  rcases Nat.eq_zero_or_pos a with rfl | ha
  · rw [fp_div0 h0 hb]
    have c : ¬ 0 < Op.cmpValue (FP.fcmp (UInt32.ofNat 0) FP.fconst0) CmpOp.l := by decide +kernel
    refine ⟨⟨fun _ => fp_n32 (by omega), ?_, fp_n32 (by omega)⟩, ?_⟩
    · unfold PX8_bitsOf
      exact fun q => absurd q c
    · unfold MX8_bitsOf
      rw [if_neg c]
      have n : MJxf58ca_isNaN_12338 (UInt32.ofNat 0) V1 = 0 := by
        unfold MJxf58ca_isNaN_12338
        rw [if_pos (by decide +kernel)]
      unfold MJxf58ca_floatToIntBits_5c35a
      rw [if_pos n]
      rfl
  · obtain ⟨E, T, q1, q2, q3, q4⟩ := fp_div ha hab hb
    rw [q4]
    obtain ⟨s1, s2⟩ := fp_bits (V := V) q1 q2 q3
    rw [s2, fp_raw (by omega) q2 q3]
    exact ⟨⟨fun _ => fp_n32 (by omega), s1, fp_n32 (by omega)⟩, rfl⟩
end FPD
